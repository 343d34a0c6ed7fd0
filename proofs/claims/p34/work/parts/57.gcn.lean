/-! CALLS OF THE SECOND MACHINE: contracts, what stays valid -/
theorem gpop_spec : ∀ {n : Nat} {st acc as r : List gPV}, gpop n st acc = some (as, r) → ∃ l, st = l ++ r ∧ as = l.reverse ++ acc ∧ l.length = n
  | 0, st, acc, as, r, h => by
    cases h
    exact ⟨[], rfl, rfl, rfl⟩
  | n + 1, [], acc, as, r, h => by cases h
  | n + 1, v :: st, acc, as, r, h => by
    obtain ⟨l, h1, h2, h3⟩ := gpop_spec (n := n) (st := st) (acc := v :: acc) h
    exact ⟨v :: l, by rw [h1]; rfl, by rw [h2]; simp, by simp [h3]⟩
theorem gcall_pop {e0 : PE} {st as r : List gPV} {k' : Nat} (h : gcall e0 st = some (k', as, r)) : ∃ b, gpop b st [] = some (as, r) := by
  obtain ⟨i, nx, a, b, t, v, w⟩ := e0
  cases i with
  | invokevirtual x0 =>
    have h1 : (match (generalizing := false) Nat.blt t 90 with
      | true => (gpop b st []).map fun p => (a, p.1, p.2)
      | false => none) = some (k', as, r) := h
    obtain ⟨-, h2⟩ := gbt h1
    obtain ⟨⟨as2, r2⟩, h3, h4⟩ := mp2 h2
    cases h4
    exact ⟨b, h3⟩
  | invokestatic x0 =>
    have h1 : (match (generalizing := false) t with
      | 99 => (gpop b st []).map fun p => (a, p.1, p.2)
      | _ => none) = some (k', as, r) := h
    split at h1
    · obtain ⟨⟨as2, r2⟩, h3, h4⟩ := mp2 h1
      cases h4
      exact ⟨b, h3⟩
    · cases h1
  | invokespecial x0 =>
    have h1 : (match (generalizing := false) t with
      | 98 => (gpop b st []).map fun p => (a, p.1, p.2)
      | 97 => (gpop b st []).map fun p => (a, p.1, p.2)
      | _ => none) = some (k', as, r) := h
    split at h1
    · obtain ⟨⟨as2, r2⟩, h3, h4⟩ := mp2 h1
      cases h4
      exact ⟨b, h3⟩
    · obtain ⟨⟨as2, r2⟩, h3, h4⟩ := mp2 h1
      cases h4
      exact ⟨b, h3⟩
    · cases h1
  | _ => exact nomatch (show (none : Option (Nat × List gPV × List gPV)) = some _ from h)
theorem gxcall_pop {e0 : PE} {st as r : List gPV} {k' : Nat} (h : gxcall e0 st = some (k', as, r)) : ∃ b, gpop b st [] = some (as, r) := by
  obtain ⟨i, nx, a, b, t, v, w⟩ := e0
  cases i with
  | invokevirtual x0 =>
    have h1 : (match (generalizing := false) t with
      | 140 => (gpop b st []).map fun p => (a, p.1, p.2)
      | _ => none) = some (k', as, r) := h
    split at h1
    · obtain ⟨⟨as2, r2⟩, h3, h4⟩ := mp2 h1
      cases h4
      exact ⟨b, h3⟩
    · cases h1
  | invokestatic x0 =>
    have h1 : (match (generalizing := false) t with
      | 140 => (gpop b st []).map fun p => (a, p.1, p.2)
      | _ => none) = some (k', as, r) := h
    split at h1
    · obtain ⟨⟨as2, r2⟩, h3, h4⟩ := mp2 h1
      cases h4
      exact ⟨b, h3⟩
    · cases h1
  | _ => exact nomatch (show (none : Option (Nat × List gPV × List gPV)) = some _ from h)
theorem gpop_all {p : gPV → Bool} {n : Nat} {st as r : List gPV} (h : gpop n st [] = some (as, r)) (hs : st.all p = true) : as.all p = true ∧ r.all p = true := by
  obtain ⟨l, h1, h2, -⟩ := gpop_spec h
  subst h1
  rw [List.append_nil] at h2
  subst h2
  rw [List.all_append, Bool.and_eq_true] at hs
  rw [List.all_reverse]
  exact hs
theorem gxo_all {n : Nat} (v : Option Value) : ((gxo v).toList).all (gvv n) = true := by
  unfold gxo
  split <;> rfl
theorem gret_spec {rt : Nat} {e0 : PE} {st : List gPV} {o : gPO} (hr : gret rt e0 st = some o) :
    (e0.1 = .ireturn ∧ ∃ x, st = [.inl x] ∧ o = some (.inl x) ∧ (rt = 1 ∨ (rt = 2 ∧ (x = 0 ∨ x = 1)) ∨ (rt = 5 ∧ vp_nar .char x = x) ∨ (rt = 6 ∧ vp_nar .byte x = x))) ∨ (e0.1 = .lreturn ∧ ∃ x, st = [.inr (.inl x)] ∧ rt = 3 ∧ o = some (.inr (.inl x))) ∨ (e0.1 = .areturn ∧ ∃ x, st = [.inr (.inr x)] ∧ rt = 4 ∧ o = some (.inr (.inr x))) ∨ (e0.1 = .return_ ∧ st = [] ∧ rt = 0 ∧ o = none) := by
  have hnar : ∀ {t : Nat} {x y : Int32}, gNar t x = some y → y = x ∧ ((t = 5 ∧ vp_nar .char x = x) ∨ (t ≠ 5 ∧ vp_nar .byte x = x)) := by
    intro t x y h
    unfold gNar at h
    split at h
    · by_cases q : vp_nar .char x = x
      · rw [if_pos q] at h
        cases h
        exact ⟨rfl, Or.inl ⟨rfl, q⟩⟩
      · rw [if_neg q] at h
        cases h
    · rename_i hne
      by_cases q : vp_nar .byte x = x
      · rw [if_pos q] at h
        cases h
        exact ⟨rfl, Or.inr ⟨fun e9 => hne e9, q⟩⟩
      · rw [if_neg q] at h
        cases h
  unfold gret at hr
  split at hr
  · rename_i hi
    split at hr
    · rename_i x
      split at hr
      · cases hr
        exact Or.inl ⟨hi, x, rfl, rfl, Or.inl rfl⟩
      · obtain ⟨y, h1, h2⟩ := mp2 hr
        unfold zbo at h1
        by_cases q0 : x = 0
        · rw [if_pos q0] at h1
          cases h1
          cases h2
          exact Or.inl ⟨hi, _, rfl, by rw [q0], Or.inr (Or.inl ⟨rfl, Or.inl q0⟩)⟩
        · rw [if_neg q0] at h1
          by_cases q1 : x = 1
          · rw [if_pos q1] at h1
            cases h1
            cases h2
            exact Or.inl ⟨hi, _, rfl, by rw [q1], Or.inr (Or.inl ⟨rfl, Or.inr q1⟩)⟩
          · rw [if_neg q1] at h1
            cases h1
      · obtain ⟨y, h1, h2⟩ := mp2 hr
        cases h2
        obtain ⟨rfl, ⟨-, q⟩ | ⟨q, -⟩⟩ := hnar h1
        · exact Or.inl ⟨hi, _, rfl, rfl, Or.inr (Or.inr (Or.inl ⟨rfl, q⟩))⟩
        · exact absurd rfl q
      · obtain ⟨y, h1, h2⟩ := mp2 hr
        cases h2
        obtain ⟨rfl, ⟨q, -⟩ | ⟨-, q⟩⟩ := hnar h1
        · cases q
        · exact Or.inl ⟨hi, _, rfl, rfl, Or.inr (Or.inr (Or.inr ⟨rfl, q⟩))⟩
      · cases hr
    · cases hr
  · rename_i hi
    split at hr
    · rename_i x
      split at hr
      · cases hr
        exact Or.inr (Or.inl ⟨hi, x, rfl, rfl, rfl⟩)
      · cases hr
    · cases hr
  · rename_i hi
    split at hr
    · rename_i x
      split at hr
      · cases hr
        exact Or.inr (Or.inr (Or.inl ⟨hi, x, rfl, rfl, rfl⟩))
      · cases hr
    · cases hr
  · rename_i hi
    split at hr
    · split at hr
      · cases hr
        exact Or.inr (Or.inr (Or.inr ⟨hi, rfl, rfl, rfl⟩))
      · cases hr
    · cases hr
  · cases hr
theorem gmask_all {p : gPO → Bool} (hp : p none = true) : ∀ {m : List Bool} {lv : gLV}, lv.all p = true → (gmask m lv).all p = true
  | [], lv, h => by cases lv <;> rfl
  | true :: m, [], h => rfl
  | false :: m, [], h => rfl
  | true :: m, x :: t, h => vc1 (va1 h).1 (gmask_all hp (va1 h).2)
  | false :: m, x :: t, h => vc1 hp (gmask_all hp (va1 h).2)
/-- what a call leaves -/
def gLeft (S : gST) (o : gPO) (S' : gST) : Prop := gvD S'.2 = true ∧ gGr S.2 S'.2 ∧ (o.toList).all (gvv S'.2.1.length) = true
theorem gpw_inv {Cal : Nat → List gPV → gST → gPO → gST → Prop} {X : Nat → List Value → PH → PO → PH → Prop} {mi : gMI} {Q : gPO → gST → Prop}
    (hC : ∀ (k : Nat) (as : List gPV) (S : gST) (o : gPO) (S' : gST), Cal k as S o S' → gvD S.2 = true → as.all (gvv S.2.1.length) = true → gLeft S o S') :
    ∀ (n pc : Nat) (lv : gLV) (st : List gPV) (S : gST), gpw Cal X mi Q n pc lv st S → gInv S.2 lv st → ∃ o S', Q o S' ∧ gLeft S o S' := by
  intro n
  induction n with
  | zero => intro pc lv st S hp; exact hp.elim
  | succ n ih =>
    intro pc lv st S hp hi
    obtain ⟨e0, hm, hp⟩ := hp
    rcases hp with ⟨pc', lv', st', S1, hs, hk1⟩ | ⟨o, hr1, hQ⟩ | ⟨mm, hk1⟩ | ⟨k', as, r, o1, S1, hpc, hrc, hz, hcal, hk1⟩ | ⟨k', as, r, v, h1, hpc, hrc, hz, hcal, hk1⟩
    · obtain ⟨j1, j2⟩ := gstep_inv hs hi
      obtain ⟨o, S', q1, q2, q3, q4⟩ := ih _ _ _ _ hk1 j1
      exact ⟨o, S', q1, q2, j2.tr q3, q4⟩
    · refine ⟨o, S, hQ, hi.1, gGr.rf _, ?_⟩
      rcases gret_spec hr1 with ⟨-, x, rfl, rfl, -⟩ | ⟨-, x, rfl, -, rfl⟩ | ⟨-, x, rfl, -, rfl⟩ | ⟨-, rfl, -, rfl⟩
      · rfl
      · rfl
      · exact hi.2.2
      · rfl
    · obtain ⟨o, S', q1, q2⟩ := ih _ _ _ _ hk1 ⟨hi.1, gmask_all rfl hi.2.1, hi.2.2⟩
      exact ⟨o, S', q1, q2⟩
    · obtain ⟨b, hpo⟩ := gcall_pop hpc
      obtain ⟨g1, g2⟩ := gpop_all hpo hi.2.2
      obtain ⟨j1, j2, j3⟩ := hC _ _ _ _ _ hcal hi.1 g1
      obtain ⟨o, S', q1, q2, q3, q4⟩ := ih _ _ _ _ hk1 ⟨j1, all_mono (fun x => gvo_mono j2.1) hi.2.1, by rw [List.all_append, j3, all_mono (fun x => gvv_mono j2.1) g2]; rfl⟩
      exact ⟨o, S', q1, q2, j2.tr q3, q4⟩
    · obtain ⟨b, hpo⟩ := gxcall_pop hpc
      obtain ⟨g1, g2⟩ := gpop_all hpo hi.2.2
      have hg9 : gGr S.2 (gBm S.2 (mcOf k')) := ⟨Nat.le_refl _, Nat.le_add_right .., Nat.le_add_right ..⟩
      obtain ⟨o, S', q1, q2, q3, q4⟩ := ih _ _ _ _ hk1 ⟨hi.1, hi.2.1, by rw [List.all_append, gxo_all, Bool.true_and]; exact g2⟩
      exact ⟨o, S', q1, q2, hg9.tr q3, q4⟩
theorem glA_all {n : Nat} : ∀ {m : Nat} {as : List gPV}, as.all (gvv n) = true → (glA m as).all (gvo n) = true
  | 0, as, _ => by unfold glA; rfl
  | 1, [], _ => rfl
  | m + 2, [], h => vc1 rfl (glA_all (m := m + 1) (as := []) rfl)
  | 1, v :: t, h => vc1 (va1 h).1 rfl
  | m + 2, .inl x :: t, h => vc1 rfl (glA_all (va1 h).2)
  | m + 2, .inr (.inr x) :: t, h => vc1 (va1 h).1 (glA_all (va1 h).2)
  | m + 2, .inr (.inl x) :: t, h => vc1 rfl (vc1 rfl (glA_all (va1 h).2))
theorem gEx_inv {dX : Nat} : ∀ (d k : Nat) (as : List gPV) (S : gST) (o : gPO) (S' : gST), gEx dX d k as S o S' → gvD S.2 = true → as.all (gvv S.2.1.length) = true → gLeft S o S' := by
  intro d
  induction d with
  | zero => intro k as S o S' h; exact h.elim
  | succ d IH =>
    intro k as S o S' h hv ha
    obtain ⟨-, n, hp⟩ := h
    obtain ⟨o1, S1, ⟨rfl, rfl⟩, q⟩ := gpw_inv IH n _ _ _ _ hp ⟨hv, glA_all ha, rfl⟩
    exact q
/-! words -/
def gtbl2 : List Cond := gprv.map (fun y => Cond.selects "java/lang/StringBuilder" y y) ++ gtbl
theorem gsel {y : MethodName} {s : State} {args : Array Value} (hy0 : y.cls = "java/lang/AbstractStringBuilder") (h1 : (Cond.selects "java/lang/StringBuilder" gyLat gyLat).before args s = true) (hpriv : (Cond.privateMethod y).before args s = true) (hinst : (Cond.instanceMethod y).before args s = true) : (Cond.selects "java/lang/StringBuilder" y y).before args s = true := by
  obtain ⟨c, r, m, q1, q2, q3, q4, k, hk, hki⟩ := Cond.selects_spec h1
  obtain ⟨mk, methM, hnamed, hmethM, -, -⟩ := Cond.instanceMethod_spec hinst
  have hfound : s.methodFound? y.cls y.name y.desc = some mk := State.methodFound?_of_named hnamed ⟨by rw [hy0]; decide, by rw [hy0]; decide⟩
  have hcls : mk.cls = m.cls := Option.some.inj ((findClass_of_methodNamed hnamed).symm.trans (by rw [hy0]; exact findClass_of_methodNamed q3))
  have hsel : selectMethod {} s.vm c mk = .method mk := selectMethod_private hmethM (Cond.privateMethod_at hpriv mk methM hnamed hmethM)
  simp only [Cond.before, Cond.holds, Cond.value, q1, hfound, hnamed, hsel, hcls, hk]
  simp; exact hki
theorem gprv_w : Cond.selects "java/lang/StringBuilder" gyLat gyLat ∈ gtbl ∧ ∀ y ∈ gprv, y.cls = "java/lang/AbstractStringBuilder" ∧ Cond.privateMethod y ∈ lw_tbl ∧ Cond.instanceMethod y ∈ gtbl := by
  have key : (decide (Cond.selects "java/lang/StringBuilder" gyLat gyLat ∈ lw_tbl) && gprv.all (fun y => decide (y.cls = "java/lang/AbstractStringBuilder") && (decide (Cond.privateMethod y ∈ lw_tbl) && decide (Cond.instanceMethod y ∈ lw_tbl)))) = true := by decide +kernel
  obtain ⟨h1, h2⟩ := and2 key
  refine ⟨gtbl_in (of_decide_eq_true h1) rfl, fun y hy => ?_⟩
  have h3 := List.all_eq_true.mp h2 y hy
  rw [Bool.and_eq_true, Bool.and_eq_true, decide_eq_true_eq, decide_eq_true_eq, decide_eq_true_eq] at h3
  exact ⟨h3.1, h3.2.1, gtbl_in h3.2.2 rfl⟩
theorem gts2 {z : PP} {L : Nat} {xs : Nat → Int32} {args : Array Value} {s : State} (K : GK z L xs s) (hts : ∀ w ∈ gtbl, w.before args s = true) : ∀ w ∈ gtbl2, w.before args s = true := by
  intro w hw
  rcases List.mem_append.mp hw with hw | hw
  · obtain ⟨y, hy, rfl⟩ := List.mem_map.mp hw
    exact va_Nw.use rfl (K.1.2.2.2.2.2.2.2.2.2.2 y hy)
  · exact hts w hw
theorem gsel2 {y x : MethodName} {C : String} (h : Cond.selects C x y ∈ gtb2) : Cond.selects C x y ∈ gtbl2 := by
  rcases List.mem_append.mp h with h | h
  · exact List.mem_append_left _ h
  · exact List.mem_append_right _ (gtbl_in h rfl)
theorem goodIn_g2 {ws : List Cond} (h : ∀ w ∈ ws, w ∈ gtbl2) : GoodIn gtbl2 ws := fun w hw => by
  refine ⟨h w hw, ?_⟩
  rcases List.mem_append.mp (h w hw) with h1 | h1
  · obtain ⟨y, hy, rfl⟩ := List.mem_map.mp h1
    exact good_of_word rfl
  · exact good_of_word (List.mem_filter.mp h1).2
theorem gchK_at {k : Nat} (hk : k < 74) : gchK k = true := match k, hk with
  | 0, _ => gchK_0
  | 1, _ => gchK_1
  | 2, _ => gchK_2
  | 3, _ => gchK_3
  | 4, _ => gchK_4
  | 5, _ => gchK_5
  | 6, _ => gchK_6
  | 7, _ => gchK_7
  | 8, _ => gchK_8
  | 9, _ => gchK_9
  | 10, _ => gchK_10
  | 11, _ => gchK_11
  | 12, _ => gchK_12
  | 13, _ => gchK_13
  | 14, _ => gchK_14
  | 15, _ => gchK_15
  | 16, _ => gchK_16
  | 17, _ => gchK_17
  | 18, _ => gchK_18
  | 19, _ => gchK_19
  | 20, _ => gchK_20
  | 21, _ => gchK_21
  | 22, _ => gchK_22
  | 23, _ => gchK_23
  | 24, _ => gchK_24
  | 25, _ => gchK_25
  | 26, _ => gchK_26
  | 27, _ => gchK_27
  | 28, _ => gchK_28
  | 29, _ => gchK_29
  | 30, _ => gchK_30
  | 31, _ => gchK_31
  | 32, _ => gchK_32
  | 33, _ => gchK_33
  | 34, _ => gchK_34
  | 35, _ => gchK_35
  | 36, _ => gchK_36
  | 37, _ => gchK_37
  | 38, _ => gchK_38
  | 39, _ => gchK_39
  | 40, _ => gchK_40
  | 41, _ => gchK_41
  | 42, _ => gchK_42
  | 43, _ => gchK_43
  | 44, _ => gchK_44
  | 45, _ => gchK_45
  | 46, _ => gchK_46
  | 47, _ => gchK_47
  | 48, _ => gchK_48
  | 49, _ => gchK_49
  | 50, _ => gchK_50
  | 51, _ => gchK_51
  | 52, _ => gchK_52
  | 53, _ => gchK_53
  | 54, _ => gchK_54
  | 55, _ => gchK_55
  | 56, _ => gchK_56
  | 57, _ => gchK_57
  | 58, _ => gchK_58
  | 59, _ => gchK_59
  | 60, _ => gchK_60
  | 61, _ => gchK_61
  | 62, _ => gchK_62
  | 63, _ => gchK_63
  | 64, _ => gchK_64
  | 65, _ => gchK_65
  | 66, _ => gchK_66
  | 67, _ => gchK_67
  | 68, _ => gchK_68
  | 69, _ => gchK_69
  | 70, _ => gchK_70
  | 71, _ => gchK_71
  | 72, _ => gchK_72
  | 73, _ => gchK_73
  | k + 74, h => absurd h (by omega)
/-- what the check of a method says -/
theorem gmth_at {k : Nat} (hk : k < 74) : gcodW k ∈ gtbl ∧ Cond.initialized (gyO k).cls ∈ gtbl ∧ (gyO k).cls = gownN (gclO k) ∧ plainName (gyO k).cls = true ∧ (parseMethodDescriptor (gyO k).desc).map (fun d => d.parameters.length) = some (gnrO k) ∧ grtN (gretO k) = (gmiOf k).2.1 ∧ (gyO k).cls ≠ "java/lang/invoke/MethodHandle" ∧ (gyO k).cls ≠ "java/lang/invoke/VarHandle" ∧ (gmiOf k).2.2 < 10 := by
  have h := gchK_at hk
  unfold gchK at h
  simp only [Bool.and_eq_true, decide_eq_true_eq] at h
  obtain ⟨⟨⟨⟨⟨⟨⟨⟨h1, h2⟩, h3⟩, h4⟩, h5⟩, h6⟩, h7⟩, h8⟩, h9⟩ := h
  exact ⟨gtbl_in (atT_in h1) rfl, gtbl_in (atT_in h2) rfl, h3, h4, h5, Nat.eq_of_beq_eq_true h6, h7, h8, blt_of h9⟩
/-! contracts -/
def RM2 (dX d mc ms : Nat) : Room := { frames := 40 + dX + d, cells := mc, slots := ms, locals := 1000 + 60 * (dX + d) }
def PK2 (z : PP) (L : Nat) (xs : Nat → Int32) (ad : Nat → Nat) (as : List gPV) (S : gST) : Array Value → State → Prop := va_Pc (as.map (gimg (gadr z ad))) (fun U => GK z L xs U ∧ va_P z.1 vwCl (gW z S.1 ad S.2.1) U.heap ∧ va_D (AB z) (gW z S.1 ad S.2.1) ∧ scr L xs S.1)
def QK2 (z : PP) (L : Nat) (xs : Nat → Int32) (ad : Nat → Nat) (o : gPO) (S S' : gST) : Array Value → State → Outcome → State → Prop := fun _ st oc t => ∃ ad' : Nat → Nat, (∀ i, i < S.2.1.length → ad' i = ad i) ∧ oc = .returned (o.map (gimg (gadr z ad'))) ∧ (va_P z.1 vwCl (gW z S'.1 ad' S'.2.1) t.heap ∧ va_D (AB z) (gW z S'.1 ad' S'.2.1) ∧ scr L xs S'.1) ∧ va_F (AB z) st t
def Con2 (l : Launch) (z : PP) (L : Nat) (xs : Nat → Int32) (dX d k : Nat) (as : List gPV) (S : gST) (o : gPO) (S' : gST) : Prop :=
  ∀ ad : Nat → Nat, Met l (gyO k) (gcodW k :: gtbl) (RM2 dX d (S'.2.2.1 - S.2.2.1) (S'.2.2.2 - S.2.2.2)) (PK2 z L xs ad as S) (QK2 z L xs ad o S S') (S'.2.2.1 - S.2.2.1) (S'.2.2.2 - S.2.2.2) (AB z)
theorem PK2.blind {z : PP} {L : Nat} {xs : Nat → Int32} {ad : Nat → Nat} {as : List gPV} {S : gST} (hf : GF z) : FrameBlind (PK2 z L xs ad as S) := fun _ _ _ _ hp => ⟨hp.1, GK.cal hf hp.2.1, hp.2.2⟩
theorem gCls_inv {D : gDS} {r : gRF} {c : Nat} (h : gCls D r = some c) : (∃ i vs, r = some (.inl i) ∧ D.1[i]? = some (.inl (c, vs))) ∨ (∃ j, r = some (.inr (10 + 2 * j)) ∧ j < gKS ∧ c = 11) := by
  unfold gCls at h
  split at h
  · split at h
    · rename_i cj vs heq
      cases h
      exact Or.inl ⟨_, _, rfl, heq⟩
    · cases h
  · rename_i q
    obtain ⟨hq, hh⟩ := bic h
    cases hh
    unfold gkS at hq
    simp only [Bool.and_eq_true] at hq
    obtain ⟨q1, q2, q3⟩ := hq
    have q1 := Nat.le_of_ble_eq_true q1
    have q2 := blt_of q2
    have q3 := Nat.eq_of_beq_eq_true q3
    have e : q = 10 + 2 * ((q - 10) / 2) := by omega
    exact Or.inr ⟨(q - 10) / 2, by rw [← e], by show (q - 10) / 2 < 16; omega, rfl⟩
  · cases h
theorem glg_len (f : Nat ⊕ Nat → Nat) : ∀ (as : List gPV), (lg_sl (as.map (gimg f))).length = gcat as
  | [] => rfl
  | v :: t => by
    have ih := glg_len f t
    unfold lg_sl at ih ⊢
    rw [List.map_cons, List.flatMap_cons, List.length_append, ih]
    cases v with
    | inl x => rfl
    | inr v => cases v with
      | inl x => rfl
      | inr r => cases r <;> rfl
theorem glA_spec {f : Nat ⊕ Nat → Nat} : ∀ {n : Nat} {as : List gPV} {k i : Nat} {v : gPV}, ggo (glA n as) i = some v → (k + i, gimg f v) ∈ lv_args k (as.map (gimg f))
  | 0, as, k, i, v, h => by
    unfold glA at h
    cases h
  | 1, [], k, 0, v, h => by cases h
  | 1, [], k, i + 1, v, h => by cases h
  | n + 2, [], k, 0, v, h => by cases h
  | n + 2, [], k, i + 1, v, h => by
    have := glA_spec (f := f) (n := n + 1) (as := []) (k := k) (i := i) (v := v) h
    cases this
  | 1, w :: t, k, 0, v, h => by
    have e : glA 1 (w :: t) = [some w] := rfl
    rw [e] at h
    cases h
    exact List.mem_cons_self
  | 1, w :: t, k, i + 1, v, h => by
    have e : glA 1 (w :: t) = [some w] := rfl
    rw [e] at h
    cases h
  | n + 2, .inr (.inl x) :: t, k, i, v, h => by
    have e : glA (n + 2) (.inr (.inl x) :: t) = some (.inr (.inl x)) :: none :: glA n t := rfl
    rw [e] at h
    match i, h with
    | 0, h => cases h; exact List.mem_cons_self
    | 1, h => cases h
    | i + 2, h =>
      have := glA_spec (f := f) (n := n) (as := t) (k := k + 2) (i := i) (v := v) h
      rw [show k + 2 + i = k + (i + 2) by omega] at this
      exact List.mem_cons_of_mem _ this
  | n + 2, .inl x :: t, k, i, v, h => by
    have e : glA (n + 2) (.inl x :: t) = some (.inl x) :: glA (n + 1) t := rfl
    rw [e] at h
    match i, h with
    | 0, h => cases h; exact List.mem_cons_self
    | i + 1, h =>
      have := glA_spec (f := f) (n := n + 1) (as := t) (k := k + 1) (i := i) (v := v) h
      rw [show k + 1 + i = k + (i + 1) by omega] at this
      exact List.mem_cons_of_mem _ this
  | n + 2, .inr (.inr x) :: t, k, i, v, h => by
    have e : glA (n + 2) (.inr (.inr x) :: t) = some (.inr (.inr x)) :: glA (n + 1) t := rfl
    rw [e] at h
    match i, h with
    | 0, h => cases h; exact List.mem_cons_self
    | i + 1, h =>
      have := glA_spec (f := f) (n := n + 1) (as := t) (k := k + 1) (i := i) (v := v) h
      rw [show k + 1 + i = k + (i + 1) by omega] at this
      refine List.mem_cons_of_mem _ ?_
      cases x <;> exact this
section GCN
variable {p : Program} {l : Launch} {e : Env} {R : Room} {s : State} {m : MethodId} {args : Array Value} {below : List Frame} {meth : Method} {c : Code} {Q : State → Prop}
variable {z : PP} {k L : Nat} {xs : Nat → Int32} {n0 : Nat} {ad0 : Nat → Nat} {c0 s0 pc : Nat} {lv : gLV} {st : List gPV} {S S' : gST}
/-- the receiver's object -/
theorem grecv_at {t : Nat} {as : List gPV} (ht : t < 13) (K : GK z L xs s) {H : Heap} {locs : List Loc} {ad : Nat → Nat} (hP : va_P z.1 vwCl (gW z S.1 ad S.2.1) H) (hS : va_S (AB z) s.heap H locs) (h : grecv S.2 as t = true) (h9 : Nat.blt t 90 = true) : ∃ (r : Nat ⊕ Nat) (as0 : List gPV), as = .inr (.inr (some r)) :: as0 ∧ ∃ cell : Cell, H[gadr z ad r]? = some cell ∧ cell.vm.isStatics = false ∧ s.vm.findClass (fC t) = some cell.cls := by
  unfold grecv at h
  rw [h9, Bool.true_or] at h
  dsimp only at h
  split at h
  · rename_i r as0
    have h97 : Nat.beq t 97 = false := by
      cases hb : Nat.beq t 97 with
      | false => rfl
      | true => have := Nat.eq_of_beq_eq_true hb; omega
    split at h
    · rename_i c9 heq
      rw [h97] at h
      obtain rfl : c9 = t := Nat.eq_of_beq_eq_true h
      rcases gCls_inv heq with ⟨i, vs, rfl, hD9⟩ | ⟨j, rfl, hj, rfl⟩
      · exact ⟨.inl i, as0, rfl, va_recv K.1.1.1 hP (gclA ht) (gW_get hD9)⟩
      · exact ⟨.inr (10 + 2 * j), as0, rfl, va_Orecv (K.2.1.1 j hj).1 hS⟩
    · cases h
  · cases h
end GCN
