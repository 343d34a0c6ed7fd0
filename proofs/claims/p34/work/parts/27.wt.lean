/-! THE WORLD ABOUT A BODY: it stays as calls go by -/
def isDC (w : Cond) : Bool := match w with
  | .declares _ => true
  | .castable _ _ => true
  | _ => false
def sLens : List Nat := [7, 4, 3, 5, 7, 4, 6]
def sByts : List (List Int32) := [[110, 101, 116, 119, 111, 114, 107], [101, 100, 103, 101], [98, 97, 110], [100, 101, 112, 111, 116], [115, 101, 114, 118, 105, 99, 101], [99, 111, 115, 116], [100, 101, 109, 97, 110, 100]]
def STR (z : PP) (s : State) : Prop := (∃ adV, vk_S 7 sLens sByts (fun j => z.2.2.1 (SB + j)) adV (A0 z) s s.heap) ∧ va_Z "java/lang/String" "COMPACT_STRINGS" "Z" (.int 1) (A0 z) s s.heap ∧ va_Zq "jdk/internal/util/Preconditions" "SIOOBE_FORMATTER" "Ljava/util/function/BiFunction;" (A0 z) s s.heap
def WT (z : PP) (L : Nat) (xs : Nat → Int32) (s : State) : Prop :=
  WS z L xs s ∧ vx_Zq Bundle.tN "UNASSIGNED_STACK" Bundle.steD (A0 z) s s.heap ∧ vx_Zq Bundle.tN "SUPPRESSED_SENTINEL" Bundle.listD (A0 z) s s.heap ∧ (∀ w ∈ lw_tbl, isDC w = true → va_Nw w s) ∧ (∀ i j, i < 4 → j < 4 → i ≠ j → va_Nc (exN i) (exN j) s) ∧
  (∀ q j, sres q = some j → j < 7 → vk_R (ownN (q / 1000)) (q % 1000) (sTxt j) (z.2.2.1 (SB + j)) s) ∧ (∀ q ik ic E tx, tres q = some (ik, ic, E, tx) → ∃ sa, vk_R (ownN (q % 10000 / 1000)) (q % 1000) tx sa s) ∧ STR z s
theorem WT.go {z : PP} {L : Nat} {xs : Nat → Int32} {s U : State} {locs : List Loc} (hw : WF z) (h : WT z L xs s) (hW : s.WarmedH U.vm) (hS : va_S (A0 z) s.heap U.heap locs) : WT z L xs U := by
  obtain ⟨⟨a1, a2, a3, a4⟩, b, c, d, e, f, g, ⟨adV, i1⟩, i2, i3⟩ := h
  have hk : ∀ a : Nat, a < s.heap.size → ¬ A0 z a → U.heap[a]? = s.heap[a]? := hS.2.1
  refine ⟨⟨va_K.moved hW.alike a1, fun w h1 h2 => ?_, ?_, Nat.lt_of_lt_of_le a4 hS.1⟩, (b.moved hW.alike).kept hk, (c.moved hW.alike).kept hk, fun w h1 h2 => ?_, fun i j h1 h2 h3 => (e i j h1 h2 h3).moved hW.alike, fun q j h1 h2 => (f q j h1 h2).warm hW, fun q ik ic E tx h1 => ?_, ⟨adV, (i1.moved hW.alike).kept hk⟩, (i2.moved hW.alike).kept hk, (i3.moved hW.alike).kept hk⟩
  · have h3 := a2 w h1 h2
    cases w with
    | fieldLinkNest _ _ _ _ _ _ => exact va_Nw.warmF hW h3
    | methodLinkNest _ _ _ _ => exact va_Nw.warmM hW h3
    | _ => cases h2
  · obtain ⟨sc, h1, h2, h3⟩ := a3
    exact ⟨sc, by rw [hk _ a4 hw.2.2]; exact h1, State.isArrayOf_alike hW.alike h2, h3⟩
  · have h3 := d w h1 h2
    cases w with
    | declares _ => exact va_Nw.warmD hW h3
    | castable _ _ => exact va_Nw.warmC hW h3
    | _ => cases h2
  · obtain ⟨sa, h2⟩ := g q ik ic E tx h1
    exact ⟨sa, h2.warm hW⟩
theorem WT.cal {z : PP} {L : Nat} {xs : Nat → Int32} {U : State} {g : JFrame} {mk : MethodId} {a : Array Value} (hw : WF z) (h : WT z L xs U) : WT z L xs (U.calling g mk a) :=
  WT.go (U := U.calling g mk a) (locs := []) hw h (State.WarmedH.refl U) va_S.rf
/-- a method's contract: from the things h and these arguments it comes to outcome o and the things h' -/
def PK (z : PP) (L : Nat) (xs : Nat → Int32) (as : List Value) (h : PH) : Array Value → State → Prop := va_Pc (as.map (img z.2.2.1)) (fun U => WT z L xs U ∧ va_P z.1 vwCl (wd z h) U.heap ∧ scr L xs h)
def QK (z : PP) (L : Nat) (xs : Nat → Int32) (o : PO) (h' : PH) : Array Value → State → Outcome → State → Prop := fun _ st oc t => (∃ v : Option Value, o = .inl v ∧ oc = .returned (v.map (img z.2.2.1))) ∧ (va_P z.1 vwCl (wd z h') t.heap ∧ scr L xs h') ∧ va_F (A0 z) st t
def XK (z : PP) (L : Nat) (xs : Nat → Int32) (o : PO) (h' : PH) : String → State → State → Prop := fun E st t => (∃ j, o = .inr j ∧ E = exN j ∧ j < 4) ∧ (va_P z.1 vwCl (wd z h') t.heap ∧ scr L xs h') ∧ va_F (A0 z) st t
def RMk (d k : Nat) : Room := { frames := 20 + d, cells := mcOf k, slots := 6 * mcOf k, locals := 300 + 60 * d }
def Con (l : Launch) (z : PP) (L : Nat) (xs : Nat → Int32) (d k : Nat) (as : List Value) (h : PH) (o : PO) (h' : PH) : Prop :=
  vx_Met l (yOf k) (codW k :: gtbl) (RMk d k) (PK z L xs as h) (QK z L xs o h') (XK z L xs o h') (mcOf k) (6 * mcOf k) (A0 z)
theorem PK.blind {z : PP} {L : Nat} {xs : Nat → Int32} {as : List Value} {h : PH} (hw : WF z) : FrameBlind (PK z L xs as h) := fun _ _ _ _ hp => ⟨hp.1, WT.cal hw hp.2.1, hp.2.2⟩
theorem chkK_at {k : Nat} (hk : k < 119) : chkK k = true := by
  have go : ∀ {a : Nat}, (List.range 17).all (fun i => chkK (a + i)) = true → a ≤ k → k < a + 17 → chkK k = true := by
    intro a h h1 h2
    have h3 := List.all_eq_true.mp h (k - a) (List.mem_range.mpr (by omega))
    rw [show a + (k - a) = k by omega] at h3
    exact h3
  rcases Nat.lt_or_ge k 17 with q | q
  · exact go chkK_0 (by omega) (by omega)
  rcases Nat.lt_or_ge k 34 with q | q
  · exact go chkK_1 (by omega) (by omega)
  rcases Nat.lt_or_ge k 51 with q | q
  · exact go chkK_2 (by omega) (by omega)
  rcases Nat.lt_or_ge k 68 with q | q
  · exact go chkK_3 (by omega) (by omega)
  rcases Nat.lt_or_ge k 85 with q | q
  · exact go chkK_4 (by omega) (by omega)
  rcases Nat.lt_or_ge k 102 with q | q
  · exact go chkK_5 (by omega) (by omega)
  exact go chkK_6 (by omega) (by omega)
/-- what the check of a method says -/
theorem mth_at {k : Nat} (hk : k < 119) : codW k ∈ gtbl ∧ Cond.initialized (yOf k).cls ∈ gtbl ∧ (yOf k).cls = ownN (clsOf k) ∧ plainName (yOf k).cls = true ∧ (parseMethodDescriptor (yOf k).desc).map (fun d => d.parameters.length) = some (nargOf k) ∧ rtN (retOf k) = (miOf k).2.1 ∧ (yOf k).cls ≠ "java/lang/invoke/MethodHandle" ∧ (yOf k).cls ≠ "java/lang/invoke/VarHandle" ∧ (miOf k).2.2.2.2 < 10 ∧ goodWord (codW k) = true := by
  have h := chkK_at hk
  unfold chkK at h
  simp only [Bool.and_eq_true, decide_eq_true_eq] at h
  obtain ⟨⟨⟨⟨⟨⟨⟨⟨⟨⟨⟨h1, h2⟩, h3⟩, h4⟩, h5⟩, h6⟩, h7⟩, h8⟩, h9⟩, h10⟩, h11⟩, h12⟩ := h
  exact ⟨gtbl_in (atT_in h1) h12, gtbl_in (atT_in h2) rfl, h3, h4, h5, Nat.eq_of_beq_eq_true h6, h7, h8, blt_of h9, h12⟩
theorem popk_spec : ∀ {n : Nat} {st acc as r : List Value}, popk n st acc = some (as, r) → ∃ l, st = l ++ r ∧ as = l.reverse ++ acc ∧ l.length = n
  | 0, st, acc, as, r, h => by
    cases h
    exact ⟨[], rfl, rfl, rfl⟩
  | n + 1, [], acc, as, r, h => by cases h
  | n + 1, v :: st, acc, as, r, h => by
    obtain ⟨l, h1, h2, h3⟩ := popk_spec (n := n) (st := st) (acc := v :: acc) h
    exact ⟨v :: l, by rw [h1]; rfl, by rw [h2]; simp, by simp [h3]⟩
/-- the locals at a method's beginning -/
theorem lvA_spec {ad : Nat → Nat} : ∀ {n : Nat} {as : List Value} {k i : Nat} {v : Value}, lgo (lvA n as) i = some v → (k + i, img ad v) ∈ lv_args k (as.map (img ad))
  | 0, as, k, i, v, h => by
    unfold lvA at h
    cases h
  | 1, [], k, 0, v, h => by cases h
  | 1, [], k, i + 1, v, h => by cases h
  | n + 2, [], k, 0, v, h => by cases h
  | n + 2, [], k, i + 1, v, h => by
    have := lvA_spec (ad := ad) (n := n + 1) (as := []) (k := k) (i := i) (v := v) h
    cases this
  | 1, w :: t, k, 0, v, h => by
    have e : lvA 1 (w :: t) = [some w] := rfl
    rw [e] at h
    cases h
    exact List.mem_cons_self
  | 1, w :: t, k, i + 1, v, h => by
    have e : lvA 1 (w :: t) = [some w] := rfl
    rw [e] at h
    cases h
  | n + 2, w :: t, k, i, v, h => by
    by_cases hl : ∃ x, w = .long x
    · obtain ⟨x, rfl⟩ := hl
      have e : lvA (n + 2) (.long x :: t) = some (.long x) :: none :: lvA n t := rfl
      rw [e] at h
      match i, h with
      | 0, h => cases h; exact List.mem_cons_self
      | 1, h => cases h
      | i + 2, h =>
        have := lvA_spec (ad := ad) (n := n) (as := t) (k := k + 2) (i := i) (v := v) h
        rw [show k + 2 + i = k + (i + 2) by omega] at this
        exact List.mem_cons_of_mem _ this
    · by_cases hd : ∃ x, w = .double x
      · obtain ⟨x, rfl⟩ := hd
        have e : lvA (n + 2) (.double x :: t) = some (.double x) :: none :: lvA n t := rfl
        rw [e] at h
        match i, h with
        | 0, h => cases h; exact List.mem_cons_self
        | 1, h => cases h
        | i + 2, h =>
          have := lvA_spec (ad := ad) (n := n) (as := t) (k := k + 2) (i := i) (v := v) h
          rw [show k + 2 + i = k + (i + 2) by omega] at this
          exact List.mem_cons_of_mem _ this
      · have e : lvA (n + 2) (w :: t) = some w :: lvA (n + 1) t := by
          cases w <;> first | rfl | exact absurd ⟨_, rfl⟩ hl | exact absurd ⟨_, rfl⟩ hd
        rw [e] at h
        match i, h with
        | 0, h => cases h; exact List.mem_cons_self
        | i + 1, h =>
          have h2 : lgo (lvA (n + 1) t) i = some v := h
          have hc : ¬ w.category = 2 := by
            cases w <;> first | (intro q; cases q; done) | exact absurd ⟨_, rfl⟩ hl | exact absurd ⟨_, rfl⟩ hd
          have := lvA_spec (ad := ad) (n := n + 1) (as := t) (k := k + 1) (i := i) (v := v) h2
          rw [show k + 1 + i = k + (i + 1) by omega] at this
          refine List.mem_cons_of_mem _ ?_
          rw [img_cat, if_neg hc]
          exact this
