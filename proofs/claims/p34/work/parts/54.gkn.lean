/-! THE WORLD ABOUT A BODY OF THE SECOND MACHINE -/
def STRB (z : PP) (s : State) : Prop := (∃ adV, vk_S 7 sLens sByts (fun j => z.2.2.1 (SB + j)) adV (AB z) s s.heap) ∧ va_Z "java/lang/String" "COMPACT_STRINGS" "Z" (.int 1) (AB z) s s.heap ∧ va_Zq "jdk/internal/util/Preconditions" "SIOOBE_FORMATTER" "Ljava/util/function/BiFunction;" (AB z) s s.heap ∧ ∀ y ∈ gprv, va_Nw (.selects "java/lang/StringBuilder" y y) s
theorem va_Nw.warmK {w : Cond} {s U : State} (h1 : w.onTables = true) (h2 : w.keeps = true) (hW : s.WarmedH U.vm) (h : va_Nw w s) : va_Nw w U := Cond.onTables_warm (T := U) hW h1 h2 h
/-- what the class's bodies ask, all of it before the law's own cells -/
def WTB (z : PP) (L : Nat) (xs : Nat → Int32) (s : State) : Prop :=
  WS z L xs s ∧ vx_Zq Bundle.tN "UNASSIGNED_STACK" Bundle.steD (AB z) s s.heap ∧ vx_Zq Bundle.tN "SUPPRESSED_SENTINEL" Bundle.listD (AB z) s s.heap ∧ (∀ w ∈ lw_tbl, isDC w = true → va_Nw w s) ∧ (∀ i j, i < 4 → j < 4 → i ≠ j → va_Nc (exN i) (exN j) s) ∧
  (∀ q j, sres q = some j → j < 7 → vk_R (ownN (q / 1000)) (q % 1000) (sTxt j) (z.2.2.1 (SB + j)) s) ∧ (∀ q ik ic E tx, tres q = some (ik, ic, E, tx) → ∃ sa, vk_R (ownN (q % 10000 / 1000)) (q % 1000) tx sa s) ∧ STRB z s
theorem WTB.wt {z : PP} {L : Nat} {xs : Nat → Int32} {s : State} (hA : ∀ q, A0 z q → AB z q) (h : WTB z L xs s) : WT z L xs s := by
  obtain ⟨a, b, c, d, e, f, g, ⟨adV, i1⟩, i2, i3, -⟩ := h
  exact ⟨a, b.narrow hA, c.narrow hA, d, e, f, g, ⟨adV, i1.narrow hA⟩, i2.narrow hA, i3.narrow hA⟩
theorem WTB.go {z : PP} {L : Nat} {xs : Nat → Int32} {s U : State} {locs : List Loc} (hb : ¬ AB z (z.2.2.1 167)) (h : WTB z L xs s) (hW : s.WarmedH U.vm) (hS : va_S (AB z) s.heap U.heap locs) : WTB z L xs U := by
  obtain ⟨⟨a1, a2, a3, a4⟩, b, c, d, e, f, g, ⟨adV, i1⟩, i2, i3, i4⟩ := h
  have hk : ∀ a : Nat, a < s.heap.size → ¬ AB z a → U.heap[a]? = s.heap[a]? := hS.2.1
  refine ⟨⟨va_K.moved hW.alike a1, fun w h1 h2 => ?_, ?_, Nat.lt_of_lt_of_le a4 hS.1⟩, (b.moved hW.alike).kept hk, (c.moved hW.alike).kept hk, fun w h1 h2 => ?_, fun i j h1 h2 h3 => (e i j h1 h2 h3).moved hW.alike, fun q j h1 h2 => (f q j h1 h2).warm hW, fun q ik ic E tx h1 => ?_, ⟨adV, (i1.moved hW.alike).kept hk⟩, (i2.moved hW.alike).kept hk, (i3.moved hW.alike).kept hk, fun y hy => (i4 y hy).warmK rfl rfl hW⟩
  · have h3 := a2 w h1 h2
    cases w with
    | fieldLinkNest _ _ _ _ _ _ => exact va_Nw.warmF hW h3
    | methodLinkNest _ _ _ _ => exact va_Nw.warmM hW h3
    | _ => cases h2
  · obtain ⟨sc, h1, h2, h3⟩ := a3
    exact ⟨sc, by rw [hk _ a4 hb]; exact h1, State.isArrayOf_alike hW.alike h2, h3⟩
  · have h3 := d w h1 h2
    cases w with
    | declares _ => exact va_Nw.warmD hW h3
    | castable _ _ => exact va_Nw.warmC hW h3
    | _ => cases h2
  · obtain ⟨sa, h2⟩ := g q ik ic E tx h1
    exact ⟨sa, h2.warm hW⟩
/-- the law's own String constants, the tables of digits, VARIABLES -/
def GST (z : PP) (s : State) : Prop :=
  (∀ j, j < gKS → va_O "java/lang/String" (gkA z (10 + 2 * j)) (AB z) s s.heap ∧ va_OF "java/lang/String" "coder" "B" (.int 0) (gkA z (10 + 2 * j)) (AB z) s s.heap ∧ va_OF "java/lang/String" "value" "[B" (.ref (gkA z (11 + 2 * j))) (gkA z (10 + 2 * j)) (AB z) s s.heap) ∧
  (∀ q ys, gkB q = some ys → va_T .byte (gkA z q) ys.length (fun j => .int (ys.getD j 0)) (AB z) s s.heap) ∧
  (∀ q key ys, gkQ q = some (key, ys) → va_T (.object "java/lang/String") (gkA z q) ys.length (fun j => va_rf ((ys.getD j none).map (gadr z (fun _ => 0)))) (AB z) s s.heap) ∧
  va_Z "java/lang/Integer" "DigitOnes" "[B" (.ref (gkA z 3)) (AB z) s s.heap ∧ va_Z "java/lang/Integer" "DigitTens" "[B" (.ref (gkA z 4)) (AB z) s s.heap ∧ va_Z "WindyToursLaw" "VARIABLES" "[Ljava/lang/String;" (.ref (gkA z 1)) (AB z) s s.heap ∧
  (∀ q j, gsrs q = some j → j < gKS → vk_R (gownN (q / 2000)) (q % 2000) (gsTx j) (gkA z (10 + 2 * j)) s)
theorem GST.go {z : PP} {s U : State} {locs : List Loc} (h : GST z s) (hW : s.WarmedH U.vm) (hS : va_S (AB z) s.heap U.heap locs) : GST z U := by
  obtain ⟨a, b, c, d, e, f, g⟩ := h
  have hk : ∀ a : Nat, a < s.heap.size → ¬ AB z a → U.heap[a]? = s.heap[a]? := hS.2.1
  exact ⟨fun j hj => ⟨((a j hj).1.moved hW.alike).kept hk, ((a j hj).2.1.moved hW.alike).kept hk, ((a j hj).2.2.moved hW.alike).kept hk⟩, fun q ys hq => ((b q ys hq).moved hW.alike).kept hk, fun q key ys hq => ((c q key ys hq).moved hW.alike).kept hk, (d.moved hW.alike).kept hk, (e.moved hW.alike).kept hk, (f.moved hW.alike).kept hk, fun q j h1 h2 => (g q j h1 h2).warm hW⟩
def va_AAI (u : State) : Prop := ∃ (comp c : ClassId) (k : Class), u.vm.findClass (FieldType.array .int).toString = some comp ∧ (u.vm.classes.findIdx? fun (x : Class) => match x.kind with | .array component _ => component == comp | _ => false) = some c ∧ u.vm.classes[c]? = some k ∧ k.kind = .array comp (.array .int) ∧ u.vm.findClass ("[" ++ (FieldType.array .int).toString) = some c
theorem va_AOA.moved {u U : State} (hvm : u.vm.Alike U.vm) (h : va_AAI u) : va_AAI U := by
  obtain ⟨comp, c, k, h1, h2, h3, h4, h5⟩ := h
  obtain ⟨k', hk', he⟩ := hvm.2.2 _ _ h3
  refine ⟨comp, c, k', by rw [hvm.findClass]; exact h1, ?_, hk', by rw [he]; exact h4, by rw [hvm.findClass]; exact h5⟩
  have e1 := va_idx_bare U.vm comp
  have e2 := va_idx_bare u.vm comp
  have e3 : u.vm.bare = U.vm.bare := by first | exact hvm.bare_eq | exact hvm.bare_eq.symm
  rw [← e3] at e1
  exact e1.symm.trans (e2.trans h2)
theorem va_AAI.use {U : State} (h : va_AAI U) : va_AOA .int U := by
  obtain ⟨comp, c, k, h1, h2, h3, h4, h5⟩ := h
  unfold va_AOA Cond.before Cond.holds
  simp only [Cond.value]
  rw [h1, Option.bind_some]
  refine (congrArg (fun o : Option Nat => (o.bind (fun c => (U.vm.classes[c]?).map fun (k : Class) => match k.kind with | .array _ ty => decide (ty = FieldType.array .int) && decide (U.vm.findClass ("[" ++ (FieldType.array .int).toString) = some c) | _ => false) == some true)) h2).trans ?_
  simp [h3, h4, h5]
theorem va_AAI.of {s : State} {args : Array Value} (h : (Cond.arrayOver (.array .int)).before args s = true) : va_AAI s := by
  unfold Cond.before at h
  simp only [Cond.holds, Cond.value, beq_iff_eq] at h
  cases hc : s.vm.findClass (FieldType.array .int).toString with
  | none =>
    have hc' : s.vm.findClass ("[" ++ FieldType.int.toString) = none := hc
    simp [hc, hc'] at h
  | some comp =>
    simp only [hc, Option.bind_some, Option.bind_eq_some_iff, Option.map_eq_some_iff] at h
    obtain ⟨c, hi, k, hk, hb⟩ := h
    have hi' := hi
    obtain ⟨hlt, hp, -⟩ := Array.findIdx?_eq_some_iff_getElem.mp hi'
    have hkk : s.vm.classes[c] = k := (Array.getElem?_eq_some_iff.mp hk).2
    rw [hkk] at hp
    cases hkind : k.kind with
    | array component ty =>
      rw [hkind] at hb hp
      simp at hb hp
      exact ⟨comp, c, k, hc, hi, hk, by rw [hkind, hp, hb.1], hb.2⟩
    | _ => rw [hkind] at hb; simp at hb
/-- all that a body of the second machine asks of the world -/
def GK (z : PP) (L : Nat) (xs : Nat → Int32) (s : State) : Prop := WTB z L xs s ∧ GST z s ∧ z.2.2.2 ≤ s.heap.size ∧ va_AO "WindyToursLaw$City" s ∧ va_AAI s
/-- the class's cells are the law's, the script is not -/
def GF (z : PP) : Prop := (∀ i, i < 122 → AB z (z.2.2.1 i)) ∧ (∀ i j, i < 122 → j < 122 → z.2.2.1 i = z.2.2.1 j → i = j) ∧ ¬ AB z (z.2.2.1 167) ∧ gkA z 5 = z.2.2.1 167
theorem GF.sub {z : PP} (h : GF z) : ∀ q, A0 z q → AB z q := fun q ⟨i, hi, e⟩ => by rw [e]; exact h.1 i hi
theorem GF.wf {z : PP} (h : GF z) : WF z := ⟨fun i hi => ⟨i, hi, rfl⟩, h.2.1, fun ⟨i, hi, e⟩ => h.2.2.1 (by rw [e]; exact h.1 i hi)⟩
theorem GK.go {z : PP} {L : Nat} {xs : Nat → Int32} {s U : State} {locs : List Loc} (hf : GF z) (h : GK z L xs s) (hW : s.WarmedH U.vm) (hS : va_S (AB z) s.heap U.heap locs) : GK z L xs U := by
  obtain ⟨a, b, c, d, e⟩ := h
  exact ⟨a.go hf.2.2.1 hW hS, b.go hW hS, Nat.le_trans c hS.1, d.moved hW.alike, va_AOA.moved hW.alike e⟩
theorem GK.cal {z : PP} {L : Nat} {xs : Nat → Int32} {U : State} {g : JFrame} {mk : MethodId} {a : Array Value} (hf : GF z) (h : GK z L xs U) : GK z L xs (U.calling g mk a) :=
  GK.go (U := U.calling g mk a) (locs := []) hf h (State.WarmedH.refl U) va_S.rf
/-! words for the second machine -/
theorem gusw : ∀ ci, ci < 13 → ∀ w ∈ u_ws (fC ci) (fT ci) (fN ci), w ∈ gtbl := by
  have key : ∀ ci, ci < 13 → (u_ws (fC ci) (fT ci) (fN ci)).all (fun w => decide (w ∈ lw_tbl) && goodWord w) = true := by decide +kernel
  intro ci hc w hw
  have h1 := List.all_eq_true.mp (key ci hc) w hw
  rw [Bool.and_eq_true, decide_eq_true_eq] at h1
  exact gtbl_in h1.1 h1.2
theorem gclA {ci : Nat} (h : ci < 13) : vwCl[ci]? = some (fC ci, fT ci, fN ci) := by
  have : ci = 0 ∨ ci = 1 ∨ ci = 2 ∨ ci = 3 ∨ ci = 4 ∨ ci = 5 ∨ ci = 6 ∨ ci = 7 ∨ ci = 8 ∨ ci = 9 ∨ ci = 10 ∨ ci = 11 ∨ ci = 12 := by omega
  rcases this with rfl | rfl | rfl | rfl | rfl | rfl | rfl | rfl | rfl | rfl | rfl | rfl | rfl <;> rfl
theorem gfY_ok {ci : Nat} (h0 : 8 ≤ ci) (h : ci < 13) : ∀ k, k < fN ci → parseFieldDescriptor (fT ci k).2.2.1 = some (gfY ci k) := by
  have : ci = 8 ∨ ci = 9 ∨ ci = 10 ∨ ci = 11 ∨ ci = 12 := by omega
  rcases this with rfl | rfl | rfl | rfl | rfl
  · exact tyX8_ok
  · exact tyX9_ok
  · exact tyX10_ok
  · exact tyJ0_ok
  · exact tyJ4_ok
theorem gfM_ok {ci : Nat} (h0 : 8 ≤ ci) (h : ci < 13) : ∀ a, a < fN ci → ∀ b, b < fN ci → a ≠ b → (fT ci a).2.1 ≠ (fT ci b).2.1 := by
  have : ci = 8 ∨ ci = 9 ∨ ci = 10 ∨ ci = 11 ∨ ci = 12 := by omega
  rcases this with rfl | rfl | rfl | rfl | rfl
  · exact nmX8
  · exact nmX9
  · exact nmX10
  · exact nmJ0
  · exact nmJ4
theorem gmi_at {k pc : Nat} {e0 : PE} (h : (gmiOf k).1 pc = some e0) : k < 75 ∧ pc < glenOf k := by
  have h1 : (bif Nat.blt pc (glenOf k) then gcdOf k pc else none) = some e0 := h
  cases hb : Nat.blt pc (glenOf k) with
  | false => rw [hb] at h1; cases h1
  | true =>
    have hlt : pc < glenOf k := Nat.le_of_ble_eq_true hb
    refine ⟨?_, hlt⟩
    rcases Nat.lt_or_ge k 75 with q | q
    · exact q
    · have h0 : Nat.blt k 75 = false := by
        cases hb : Nat.blt k 75 with
        | false => rfl
        | true => exact absurd (Nat.le_of_ble_eq_true hb) (by omega)
      have : glenOf k = 0 := by unfold glenOf; rw [h0]; rfl
      omega
/-- what is known of a body: the machine, the code, the words -/
def GX (k : Nat) (p : Program) (s : State) (m : MethodId) (args : Array Value) (c : Code) : Prop :=
  p.tables.exec = Jvm.exec ∧ c.code = gccO k ∧ c.maxLocals = (gmiOf k).2.2 ∧ s.vm.findClass (gownN (gclO k)) = some m.cls ∧ (∀ w ∈ gtbl, w.before args s = true)
/-- from here it runs to Q: for all addresses that agree with ad0 on the first n0 things -/
def gGoal (p : Program) (l : Launch) (e : Env) (R : Room) (s : State) (m : MethodId) (args : Array Value) (below : List Frame) (meth : Method) (c : Code) (Q : State → Prop) (z : PP) (k L : Nat) (xs : Nat → Int32) (n0 : Nat) (ad0 : Nat → Nat) (c0 s0 pc : Nat) (lv : gLV) (st : List gPV) (S : gST) : Prop :=
  ∀ (ad : Nat → Nat) (H : Heap) (locs : List Loc) (ls : Array Slot), (∀ i, i < n0 → ad i = ad0 i) → va_P z.1 vwCl (gW z S.1 ad S.2.1) H → va_D (AB z) (gW z S.1 ad S.2.1) → va_S (AB z) s.heap H locs → scr L xs S.1 → gLH (gadr z ad) ls (gmiOf k).2.2 lv →
    W p l e R s m args below meth c H locs (S.2.2.1 - c0) (S.2.2.2 - s0) Q (F0 m pc ls (st.map (gimg (gadr z ad))))
theorem gFld_inv {D : gDS} {r : gRF} {ci b : Nat} {z : gPV} (h : gFld D r ci b = some z) : (∃ i vs, r = some (.inl i) ∧ D.1[i]? = some (.inl (ci, vs)) ∧ vs[b]? = some z) ∨
    (∃ j, r = some (.inr (10 + 2 * j)) ∧ j < gKS ∧ ci = 11 ∧ ((b = 0 ∧ z = .inr (.inr (some (.inr (11 + 2 * j))))) ∨ (b = 1 ∧ z = .inl 0))) := by
  unfold gFld at h
  split at h
  · split at h
    · rename_i i cj vs heq
      obtain ⟨hc, hh⟩ := bic h
      clear h
      obtain rfl : cj = ci := Nat.eq_of_beq_eq_true hc
      exact Or.inl ⟨_, _, rfl, heq, hh⟩
    · cases h
  · rename_i q
    unfold gkF at h
    obtain ⟨hc, h⟩ := bic h
    obtain ⟨hc, hq⟩ := and2 hc
    unfold gkS at hq
    simp only [Bool.and_eq_true] at hq
    obtain ⟨q1, q2, q3⟩ := hq
    have q1 := Nat.le_of_ble_eq_true q1
    have q2 := blt_of q2
    have q3 := Nat.eq_of_beq_eq_true q3
    have e : q = 10 + 2 * ((q - 10) / 2) := by omega
    refine Or.inr ⟨(q - 10) / 2, by rw [← e], by show (q - 10) / 2 < 16; omega, Nat.eq_of_beq_eq_true hc, ?_⟩
    split at h
    · cases h
      exact Or.inl ⟨rfl, by rw [show 11 + 2 * ((q - 10) / 2) = q + 1 by omega]⟩
    · cases h
      exact Or.inr ⟨rfl, rfl⟩
    · cases h
  · cases h
theorem gFi_inv {D : gDS} {r : gRF} {ci b : Nat} {x : Int32} (h : gFi D r ci b = some x) : gFld D r ci b = some (.inl x) := by
  unfold gFi at h
  split at h
  · rename_i y heq
    cases h
    exact heq
  · cases h
theorem gFr_inv {D : gDS} {r : gRF} {ci b : Nat} {x : gRF} (h : gFr D r ci b = some x) : gFld D r ci b = some (.inr (.inr x)) := by
  unfold gFr at h
  split at h
  · rename_i y heq
    cases h
    exact heq
  · cases h
theorem gInt_inv {D : gDS} {r : gRF} {k : Nat} {ys : List Int32} (h : gInt D r k = some ys) : (∃ i, r = some (.inl i) ∧ D.1[i]? = some (.inr (.inl (k, ys)))) ∨ (k = 2 ∧ ∃ q, r = some (.inr q) ∧ gkB q = some ys) := by
  unfold gInt at h
  split at h
  · split at h
    · rename_i i k' xs heq
      obtain ⟨hc, hh⟩ := bic h
      clear h
      cases hh
      obtain rfl : k' = k := Nat.eq_of_beq_eq_true hc
      exact Or.inl ⟨_, rfl, heq⟩
    · cases h
  · rename_i q
    obtain ⟨hc, h⟩ := bic h
    exact Or.inr ⟨Nat.eq_of_beq_eq_true hc, q, rfl, h⟩
  · cases h
theorem gkB_3 {q : Nat} {ys : List Int32} (h : gkB q = some ys) : 3 ≤ q := by
  unfold gkB at h
  by_cases h0 : 3 ≤ q
  · exact h0
  · have : q = 0 ∨ q = 1 ∨ q = 2 := by omega
    rcases this with rfl | rfl | rfl <;> cases h
theorem aidx_inv {n j : Nat} {i : Int32} (h : aidx n i = some j) : inb i n = true ∧ i.toNatClampNeg = j ∧ j < n := by
  unfold aidx at h
  by_cases q : inb i n = true
  · rw [if_pos q] at h
    cases h
    refine ⟨q, rfl, ?_⟩
    unfold inb at q
    exact of_decide_eq_true (and2 q).2
  · rw [if_neg q] at h
    cases h
theorem upd_getD {xs : List Int32} {j : Nat} {x : Int32} (hj : j < xs.length) : (fun i => (xs.set j x).getD i 0) = upd (fun i => xs.getD i 0) j x := by
  funext i
  show (xs.set j x).getD i 0 = if i = j then x else xs.getD i 0
  rw [List.getD_eq_getElem?_getD, List.getD_eq_getElem?_getD, List.getElem?_set]
  by_cases e : i = j
  · subst e
    simp [hj]
  · rw [if_neg (fun q => e q.symm), if_neg e]
theorem updL_getD {xs : List Int64} {j : Nat} {x : Int64} (hj : j < xs.length) : (fun i => (xs.set j x).getD i 0) = vp_updL (fun i => xs.getD i 0) j x := by
  funext i
  show (xs.set j x).getD i 0 = if i = j then x else xs.getD i 0
  rw [List.getD_eq_getElem?_getD, List.getD_eq_getElem?_getD, List.getElem?_set]
  by_cases e : i = j
  · subst e
    simp [hj]
  · rw [if_neg (fun q => e q.symm), if_neg e]
theorem updQ_getD {f : Nat ⊕ Nat → Nat} {rs : List gRF} {j : Nat} {x : gRF} (hj : j < rs.length) : (fun i => ((rs.set j x).getD i none).map f) = va_up (fun i => (rs.getD i none).map f) j (x.map f) := by
  funext i
  show ((rs.set j x).getD i none).map f = if i = j then x.map f else (rs.getD i none).map f
  rw [List.getD_eq_getElem?_getD, List.getD_eq_getElem?_getD, List.getElem?_set]
  by_cases e : i = j
  · subst e
    simp [hj]
  · rw [if_neg (fun q => e q.symm), if_neg e]
