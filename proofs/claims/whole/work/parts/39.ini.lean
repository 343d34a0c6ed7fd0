/-! WHAT THE STATEMENT GIVES OF THE START: statics, String constants, what can't be cast -/
def nAt (p : Nat) (w : Cond) : Bool := decide ((flatC narrow_1)[p]? = some w)
theorem nAt_in {p : Nat} {w : Cond} (h : nAt p w = true) : w ∈ flatC narrow_1 := List.mem_of_getElem? (of_decide_eq_true h)
def sPl (i : Nat) : Nat := [62, 81, 90, 95, 100, 152, 157].getD i 0
def sPm (i : Nat) : Nat := [161, 139, 143, 147, 152, 107, 113].getD i 0
def sTm (i : Nat) : Term := .string "WindyTours$SetupReader" (sPl i)
def sTf (i : Nat) : Term := .field (sTm i) "java/lang/String" "value" "[B"
/-- where a word about constant i stands: exactly, coder, array, length, the same in the model, then its bytes -/
def sPos (i j : Nat) : Nat := (([[115, 116, 117, 118, 488, 119, 120, 121, 122, 123, 124, 125], [126, 127, 128, 129, 497, 130, 131, 132, 133], [134, 135, 136, 137, 505, 138, 139, 140], [141, 142, 143, 144, 515, 145, 146, 147, 148, 149], [150, 151, 152, 153, 527, 154, 155, 156, 157, 158, 159, 160], [161, 162, 163, 164, 536, 165, 166, 167, 168], [169, 170, 171, 172, 547, 173, 174, 175, 176, 177, 178]] : List (List Nat)).getD i []).getD j 0
def chkStr (i : Nat) : Bool := nAt (sPos i 0) (Cond.exactly (sTm i) "java/lang/String") && nAt (sPos i 1) (Cond.eq (.field (sTm i) "java/lang/String" "coder" "B") (.int 0)) && nAt (sPos i 2) (Cond.arrayOf (sTf i) .byte) && nAt (sPos i 3) (Cond.eq (.length (sTf i)) (.int (Int32.ofNat (sLens.getD i 0)))) && nAt (sPos i 4) (Cond.eq (sTm i) (.string "WindyToursModel" (sPm i))) &&
  (List.range (sLens.getD i 0)).all (fun j => nAt (sPos i (5 + j)) (Cond.eq (.elem (sTf i) (.int (Int32.ofNat j))) (.int ((sByts.getD i []).getD j 0))))
theorem chkStr_all : ∀ i, i < 7 → chkStr i = true := by decide +kernel
theorem sLens_lt : ∀ i, i < 7 → sLens.getD i 0 < 2 ^ 31 := by decide +kernel
theorem sDiff : ∀ i, i < 7 → ∀ j, j < 7 → i = j ∨ sLens.getD i 0 ≠ sLens.getD j 0 ∨ (0 < sLens.getD i 0 ∧ (sByts.getD i []).getD 0 0 ≠ (sByts.getD j []).getD 0 0) := by decide +kernel
def chkSr (q : Nat) : Bool := match sres q with
  | some j => Nat.blt j 7 && decide (Cond.stringRef (ownN (q / 1000)) (q % 1000) (sTxt j) ∈ lw_tbl) && (decide (q = 6000 + sPl j) || decide (q = 8000 + sPm j))
  | none => true
theorem chkSr_all : (List.range 10000).all chkSr = true := by decide +kernel
def tPos (q : Nat) : Nat := match q with
  | 7055 => 85
  | 7117 => 195
  | 7238 => 454
  | 17164 => 264
  | 17190 => 323
  | 17258 => 232
  | 17260 => 179
  | 17262 => 217
  | 17264 => 248
  | 27182 => 284
  | 27193 => 340
  | 27209 => 361
  | 27215 => 394
  | 27223 => 420
  | 37164 => 264
  | _ => 0
def chkTr (q : Nat) : Bool := match tres q with
  | some (_, _, _, tx) => decide (Cond.stringRef (ownN (q % 10000 / 1000)) (q % 1000) tx ∈ lw_tbl) && nAt (tPos q) (Cond.exactly (.string (ownN (q % 10000 / 1000)) (q % 1000)) "java/lang/String")
  | none => true
theorem chkTr_0 : (List.range 10000).all chkTr = true := by decide +kernel
theorem chkTr_1 : (List.range 10000).all (fun i => chkTr (10000 + i)) = true := by decide +kernel
theorem chkTr_2 : (List.range 10000).all (fun i => chkTr (20000 + i)) = true := by decide +kernel
theorem chkTr_3 : (List.range 10000).all (fun i => chkTr (30000 + i)) = true := by decide +kernel
theorem tres_far {q : Nat} (h : 40000 ≤ q) : tres q = none := by
  have hb : ∀ c, c ≤ 40000 → Nat.blt q c = false := fun c hc => by
    cases hx : Nat.blt q c with
    | false => rfl
    | true => have := blt_of hx; omega
  have he : ∀ c, c < 40000 → Nat.beq q c = false := fun c hc => by
    cases hx : Nat.beq q c with
    | false => rfl
    | true => have := Nat.eq_of_beq_eq_true hx; omega
  unfold tres
  rw [hb 17262 (by decide), hb 27209 (by decide), hb 27223 (by decide), hb 37164 (by decide), he 37164 (by decide)]
  cases Nat.blt q 100000 <;> rfl
theorem chkTr_at {q : Nat} (h : q < 40000) : chkTr q = true := by
  have go : ∀ {a : Nat}, (List.range 10000).all (fun i => chkTr (a + i)) = true → a ≤ q → q < a + 10000 → chkTr q = true := by
    intro a h h1 h2
    have h3 := List.all_eq_true.mp h (q - a) (List.mem_range.mpr (by omega))
    rw [show a + (q - a) = q by omega] at h3
    exact h3
  rcases Nat.lt_or_ge q 10000 with q1 | q1
  · exact List.all_eq_true.mp chkTr_0 q (List.mem_range.mpr q1)
  rcases Nat.lt_or_ge q 20000 with q2 | q2
  · exact go chkTr_1 q1 (by omega)
  rcases Nat.lt_or_ge q 30000 with q3 | q3
  · exact go chkTr_2 q2 (by omega)
  exact go chkTr_3 q3 (by omega)
def stWords : List (Nat × Cond) := [(2, .isRef (.static Bundle.tN "UNASSIGNED_STACK" Bundle.steD)), (3, .isRef (.static Bundle.tN "SUPPRESSED_SENTINEL" Bundle.listD)), (4, .eq (.static "java/lang/String" "COMPACT_STRINGS" "Z") (.int 1)), (5, .isRef (.static "jdk/internal/util/Preconditions" "SIOOBE_FORMATTER" "Ljava/util/function/BiFunction;"))]
theorem stWords_ok : stWords.all (fun q => nAt q.1 q.2) = true := by decide +kernel
def stLays : List Cond := [.laysStatic Bundle.tN "UNASSIGNED_STACK" Bundle.steD, .laysStatic Bundle.tN "SUPPRESSED_SENTINEL" Bundle.listD, .laysStatic "java/lang/String" "COMPACT_STRINGS" "Z", .laysStatic "jdk/internal/util/Preconditions" "SIOOBE_FORMATTER" "Ljava/util/function/BiFunction;", .initialized Bundle.tN, .initialized "java/lang/String", .initialized "jdk/internal/util/Preconditions"]
theorem stLays_ok : stLays.all (fun w => decide (w ∈ lw_tbl)) = true := by decide +kernel
theorem ncW : ∀ i, i < 4 → ∀ j, j < 4 → i = j ∨ Cond.not (.castable (exN i) (exN j)) ∈ flatC narrow_1 := by
  have key : ∀ i, i < 4 → ∀ j, j < 4 → (decide (i = j) || decide (Cond.not (.castable (exN i) (exN j)) ∈ flatC narrow_1)) = true := by decide +kernel
  intro i hi j hj
  have h := key i hi j hj
  rw [Bool.or_eq_true, decide_eq_true_eq, decide_eq_true_eq] at h
  exact h
section INI
variable {s : State} {args : Array Value} {A : Nat → Prop}
/-- the String constants of the reader: they are apart, since they differ -/
theorem ini_str (hn : ∀ w ∈ flatC narrow_1, w.before args s = true) (hA : ∀ a : Nat, a < s.heap.size → ¬ A a) :
    ∃ adK adV : Nat → Nat, vk_S 7 sLens sByts adK adV A s s.heap ∧ ∀ i : Nat, i < 7 → (sTm i).eval args s none [] s = some (.ref (adK i)) := by
  have h0 : ∀ i : Nat, ∃ q : Nat × Nat, i < 7 → (sTm i).eval args s none [] s = some (.ref q.1) ∧ va_O "java/lang/String" q.1 A s s.heap ∧ va_OF "java/lang/String" "coder" "B" (.int 0) q.1 A s s.heap ∧ va_OF "java/lang/String" "value" "[B" (.ref q.2) q.1 A s s.heap ∧ va_T .byte q.2 (sLens.getD i 0) (fun j => .int ((sByts.getD i []).getD j 0)) A s s.heap := by
    intro i
    by_cases hi : i < 7
    · have hc := chkStr_all i hi
      unfold chkStr at hc
      simp only [Bool.and_eq_true] at hc
      obtain ⟨⟨⟨⟨⟨c1, c2⟩, c3⟩, c4⟩, c5⟩, c6⟩ := hc
      obtain ⟨a, c, cA, kA, q1, q2, q3, q4, q5, q6, -⟩ := Cond.exactly_spec (args := args) (first := s) (o := none) (s := s) (idx := []) (t := sTm i) (cls := "java/lang/String") (hn _ (nAt_in c1))
      obtain ⟨t, ht, hT⟩ := va_Tof (f := fun j => .int ((sByts.getD i []).getD j 0)) (A := A) (sLens_lt i hi) (hn _ (nAt_in c3)) (va_eqt (hn _ (nAt_in c4))) (fun j hj => va_eqt (hn _ (nAt_in (List.all_eq_true.mp c6 j (List.mem_range.mpr hj))))) hA
      exact ⟨(a, t), fun _ => ⟨q1, ⟨cA, q3, q5, by rw [q6]; exact q2, hA a (Array.getElem?_eq_some_iff.mp q3).1⟩, vk_OFof q1 (va_eqt (hn _ (nAt_in c2))) hA, vk_OFof q1 ht hA, hT⟩⟩
    · exact ⟨(0, 0), fun h => absurd h hi⟩
  obtain ⟨ad, had⟩ := Classical.axiomOfChoice h0
  refine ⟨fun i => (ad i).1, fun i => (ad i).2, ⟨fun i hi => (had i hi).2, fun i j hi hj e => ?_⟩, fun i hi => (had i hi).1⟩
  obtain ⟨-, -, -, o1, t1⟩ := had i hi
  obtain ⟨-, -, -, o2, t2⟩ := had j hj
  have e : (ad i).1 = (ad j).1 := e
  have ev : (ad i).2 = (ad j).2 := by
    obtain ⟨cf, k, fi, f, cell, f1, f2, f3, f4, f5, -⟩ := o1
    obtain ⟨cf', k', fi', f', cell', g1, g2, g3, g4, g5, -⟩ := o2
    rw [f1] at g1
    cases g1
    rw [e] at f3
    rw [f3] at g3
    cases g3
    rw [f5] at g5
    simp only [Option.some.injEq, Value.ref.injEq] at g5
    exact g5
  obtain ⟨cell, a1, a2, a3, a4, a5, a6, -⟩ := t1
  obtain ⟨cell', b1, b2, b3, b4, b5, b6, -⟩ := t2
  rw [ev] at a1
  rw [a1] at b1
  cases b1
  rcases sDiff i hi j hj with q | q | ⟨q0, q⟩
  · exact q
  · refine absurd ?_ q
    have h1 : (nI (sLens.getD i 0)).toInt = (nI (sLens.getD j 0)).toInt := congrArg Int32.toInt (a5.symm.trans b5)
    rw [nI_toInt (sLens_lt i hi), nI_toInt (sLens_lt j hj)] at h1
    omega
  · by_cases q9 : 0 < sLens.getD j 0
    · have h1 := (a6 0 q0).symm.trans (b6 0 q9)
      simp only [Option.some.injEq, Value.int.injEq] at h1
      exact absurd h1 q
    · have h1 : (nI (sLens.getD i 0)).toInt = (nI (sLens.getD j 0)).toInt := congrArg Int32.toInt (a5.symm.trans b5)
      rw [nI_toInt (sLens_lt i hi), nI_toInt (sLens_lt j hj)] at h1
      omega
/-- the world about the law's body -/
theorem ini_WT {D : va_G} {cA ad0 : Nat → Nat} {b L : Nat} {xs : Nat → Int32} (hn : ∀ w ∈ flatC narrow_1, w.before args s = true) (hts : ∀ w ∈ lw_tbl, w.before args s = true) (hK : ∀ (ad : Nat → Nat) (b : Nat), va_K D vwCl (tyL (D, cA, ad, b)) s) (hX : va_X b L xs s s.heap) (hb : b < s.heap.size) :
    ∃ adS : Nat → Nat, ∀ ad : Nat → Nat, ad 167 = b → (∀ j, j < 7 → ad (SB + j) = adS j) → WT (D, cA, ad, s.heap.size) L xs s := by
  have hA : ∀ a : Nat, a < s.heap.size → ¬ (fun q => s.heap.size ≤ q) a := fun a h q => by
    have q : s.heap.size ≤ a := q
    omega
  obtain ⟨adK, adV, hS, hev⟩ := ini_str (A := fun q => s.heap.size ≤ q) hn hA
  have sw := List.all_eq_true.mp stWords_ok
  have sl : ∀ w ∈ stLays, w.before args s = true := fun w hw => hts w (of_decide_eq_true (List.all_eq_true.mp stLays_ok w hw))
  have w0 : ∀ {i : Nat} {q : Nat × Cond}, stWords[i]? = some q → q.2.before args s = true := fun h => hn _ (nAt_in (sw _ (List.mem_of_getElem? h)))
  have l0 : ∀ {i : Nat} {q : Cond}, stLays[i]? = some q → q.before args s = true := fun h => sl _ (List.mem_of_getElem? h)
  refine ⟨adK, fun ad h1 h2 => ⟨⟨hK ad _, fun w hw hi => ?_, by rw [show ((D, cA, ad, s.heap.size) : PP).2.2.1 167 = b from h1]; exact hX, by rw [show ((D, cA, ad, s.heap.size) : PP).2.2.1 167 = b from h1]; exact hb⟩,
    vx_Zqof (l0 (i := 0) rfl) (l0 (i := 4) rfl) (w0 (i := 0) rfl) hA, vx_Zqof (l0 (i := 1) rfl) (l0 (i := 4) rfl) (w0 (i := 1) rfl) hA, fun w hw hi => ?_, fun i j hi hj hne => ?_, fun q j hq hj => ?_, fun q ik ic E tx hq => ?_, ⟨adV, ?_⟩, ?_, va_Zqof (l0 (i := 3) rfl) (l0 (i := 6) rfl) (w0 (i := 3) rfl) hA⟩⟩
  · cases w <;> first | exact va_Nw.of rfl (hts _ hw) | cases hi
  · cases w <;> first | exact va_Nw.of rfl (hts _ hw) | cases hi
  · rcases ncW i hi j hj with q | q
    · exact absurd q hne
    · exact va_Nc.of (hn _ q)
  · have hq4 : q < 10000 := by
      unfold sres at hq
      exact bif_lt hq (fun e => by cases e)
    have h3 := List.all_eq_true.mp chkSr_all q (List.mem_range.mpr hq4)
    unfold chkSr at h3
    rw [hq] at h3
    simp only [Bool.and_eq_true, Bool.or_eq_true, decide_eq_true_eq] at h3
    obtain ⟨⟨h4, h5⟩, h6⟩ := h3
    rw [show ((D, cA, ad, s.heap.size) : PP).2.2.1 (SB + j) = adK j from h2 j hj]
    refine vk_R.of (hts _ h5) ?_
    have h7 := hev j hj
    have hlt : ∀ j, j < 7 → sPl j < 1000 ∧ sPm j < 1000 := by decide +kernel
    obtain ⟨l1, l2⟩ := hlt j hj
    rcases h6 with h6 | h6
    · rw [show q / 1000 = 6 by omega, show q % 1000 = sPl j by omega]
      exact h7
    · rw [show q / 1000 = 8 by omega, show q % 1000 = sPm j by omega]
      have hc := chkStr_all j hj
      unfold chkStr at hc
      simp only [Bool.and_eq_true] at hc
      exact va_eqR (hn _ (nAt_in hc.1.2)) h7
  · have hq4 : q < 40000 := by
      rcases Nat.lt_or_ge q 40000 with q1 | q1
      · exact q1
      · rw [tres_far q1] at hq
        cases hq
    have h3 := chkTr_at hq4
    unfold chkTr at h3
    rw [hq] at h3
    simp only [Bool.and_eq_true, decide_eq_true_eq] at h3
    obtain ⟨h4, h5⟩ := h3
    obtain ⟨a, c, cA, kA, q1, -⟩ := Cond.exactly_spec (args := args) (first := s) (o := none) (s := s) (idx := []) (t := .string (ownN (q % 10000 / 1000)) (q % 1000)) (cls := "java/lang/String") (hn _ (nAt_in h5))
    exact ⟨a, vk_R.of (hts _ h4) q1⟩
  · refine ⟨fun i hi => ?_, fun i j hi hj e => ?_⟩
    · show va_O _ (ad (SB + i)) _ _ _ ∧ va_OF _ _ _ _ (ad (SB + i)) _ _ _ ∧ va_OF _ _ _ _ (ad (SB + i)) _ _ _ ∧ _
      rw [h2 i hi]
      exact hS.1 i hi
    · have e : ad (SB + i) = ad (SB + j) := e
      rw [h2 i hi, h2 j hj] at e
      exact hS.2 i j hi hj e
  · exact va_Zof (l0 (i := 2) rfl) (l0 (i := 5) rfl) (va_eqt (w0 (i := 2) rfl)) hA
end INI
