/-! EVERY STEP OF THE MAKER, AND ITS RUN: the constructors' contracts -/
theorem mStep_len {ci pc pc' dc ds : Nat} {lv lv' : PL} {st st' : List Value} {M M' : List MT} (h : mStep ci pc lv st M = some (pc', lv', st', M', dc, ds)) : lv'.length = lv.length := by
  unfold mStep at h
  split at h <;> (repeat' split at h) <;> first | (cases h; done) | (cases h; first | rfl | exact List.length_set ..)
section MSV
variable {p : Program} {l : Launch} {e : Env} {R : Room} {s : State} {m : MethodId} {args : Array Value} {below : List Frame} {meth : Method} {c : Code} {Q : State → Prop} {cells slots : Nat}
variable {z : PP} {nL ci pc n0 : Nat} {ad0 : Nat → Nat} {lv : PL} {st : List Value} {M : List MT}
theorem ms_step {pc' dc ds : Nat} {lv' : PL} {st' : List Value} {M' : List MT} (C : MX ci nL p s m args c) (K : MK z s) (hci : ci ≤ 9) (hnm : ci < 9 → meth.name = "<init>") (hst : mStep ci pc lv st M = some (pc', lv', st', M', dc, ds)) (hM : mOk M = true) (hM2 : M'.length ≤ 167) (hL : mOkL lv st M.length = true) (hn0 : n0 ≤ M.length) (hnl : lv.length = nL) (hc : cells + dc ≤ R.cells) (hs : slots + ds ≤ R.slots)
    (kk : MGoal p l e R s m args below meth c (cells + dc) (slots + ds) Q z nL n0 ad0 pc' lv' st' M') : MGoal p l e R s m args below meth c cells slots Q z nL n0 ad0 pc lv st M := by
  unfold mStep at hst
  split at hst
  · rename_i i hd
    split at hst
    · rename_i a hl
      cases hst
      exact ms_aload_n C hd hl kk
    · cases hst
  · rename_i i hd
    split at hst
    · rename_i a hl
      cases hst
      exact ms_iload_n C hd hl kk
    · cases hst
  · rename_i i hd
    split at hst
    · rename_i a r hb
      cases hst
      exact ms_astore_n C hd (by have := blt_of hb; omega) hL kk
    · cases hst
  · rename_i i hd
    split at hst
    · rename_i a r hb
      cases hst
      exact ms_istore_n C hd (by have := blt_of hb; omega) hL kk
    · cases hst
  · rename_i i hd
    split at hst
    · rename_i a r hb
      cases hst
      exact ms_istore C hd (by have := blt_of hb; omega) hL kk
    · cases hst
  · rename_i n hd
    cases hst
    exact ms_iconst C hd kk
  · rename_i n hd
    cases hst
    exact ms_bipush C hd kk
  · rename_i n hd
    cases hst
    exact ms_sipush C hd kk
  · rename_i hd
    split at hst
    · cases hst
      exact ms_dup C hd kk
    · cases hst
  · rename_i i n hd
    split at hst
    · rename_i a hl
      cases hst
      exact ms_iinc C hd hl (by have := (lgo_lt hl).1; omega) hL kk
    · cases hst
  · rename_i d hd
    split at hst
    · rename_i hp
      cases hst
      exact ms_goto C hd hp kk
    · cases hst
  · rename_i d hd
    split at hst
    · split at hst
      · rename_i hp
        cases hst
        exact ms_icmp C hd hp kk
      · cases hst
    · cases hst
  · rename_i x hd
    split at hst
    · rename_i hb
      obtain ⟨b1, b2⟩ := and2 hb
      cases hst
      exact ms_new C K hci hd (blt_of b2) (blt_of b1) hM (by rw [List.length_append, List.length_singleton] at hM2; omega) hL hn0 hc hs kk
    · cases hst
  · rename_i t hd
    split at hst
    · split at hst
      · rename_i hb
        obtain ⟨b0, b3⟩ := and2 hb
        obtain ⟨b1, b2⟩ := and2 b0
        cases hst
        exact ms_newarray C K hd (of_decide_eq_true b1) (blt_of b2) (Nat.le_of_ble_eq_true b3) hM (by rw [List.length_append, List.length_singleton] at hM2; omega) hL hn0 hc hs kk
      · cases hst
    · cases hst
  · rename_i x hd
    split at hst
    · split at hst
      · rename_i hb hq
        obtain ⟨b1, b2⟩ := and2 hb
        cases hst
        exact ms_anewq (key := 34) (t0 := 4) C K hci hd (blt_of b2) (of_decide_eq_true b1) hq (by omega) K.2.2.2.1 rfl (fun ad => congrArg (fun f => (.inl (z.2.1 34, 8, .inr (.inr (.inr (.inr f)))) : va_E)) (mCell_nul ad)) hM (by rw [List.length_append, List.length_singleton] at hM2; omega) hL hn0 hc hs kk
      · rename_i hb hq
        obtain ⟨b1, b2⟩ := and2 hb
        cases hst
        exact ms_anewq (key := 90) (t0 := 5) C K hci hd (blt_of b2) (of_decide_eq_true b1) hq (by omega) K.2.2.2.2.1 rfl (fun ad => congrArg (fun f => (.inl (z.2.1 90, 8, .inr (.inr (.inr (.inr f)))) : va_E)) (mCell_nul ad)) hM (by rw [List.length_append, List.length_singleton] at hM2; omega) hL hn0 hc hs kk
      · cases hst
    · cases hst
  · rename_i x hd
    split at hst
    · rename_i v a r cj b hf
      split at hst
      · rename_i ck vs ha
        split at hst
        · rename_i hb
          simp only [Bool.and_eq_true, decide_eq_true_eq] at hb
          obtain ⟨⟨⟨⟨⟨⟨c1, c2⟩, c3⟩, c4⟩, c5⟩, c6⟩, c7⟩ := hb
          have e1 := Nat.eq_of_beq_eq_true c1
          have e2 := Nat.eq_of_beq_eq_true c2
          subst e1
          subst e2
          cases hst
          exact ms_put C K (blt_of c5) (hnm (blt_of c5)) hd (blt_of c4) hf ha (blt_of c3) c6 c7 kk
        · cases hst
      · cases hst
    · cases hst
  · rename_i x hd
    split at hst
    · rename_i a r cj b nest hf
      split at hst
      · rename_i ck vs ha
        split at hst
        · rename_i q c1 hv
          split at hst
          · rename_i c2
            have e1 := Nat.eq_of_beq_eq_true c1
            subst e1
            cases hst
            exact ms_get C K hci hd (blt_of c2) hf ha hv kk
          · cases hst
        · cases hst
      · cases hst
    · cases hst
  · rename_i hd
    split at hst
    · rename_i v i a r
      split at hst
      · rename_i key n vs cv ws ha hv
        split at hst
        · rename_i hb
          simp only [Bool.and_eq_true, Bool.or_eq_true, decide_eq_true_eq] at hb
          obtain ⟨⟨⟨c1, c2⟩, c3⟩, c4⟩ := hb
          cases hst
          rcases c1 with ⟨d1, d2⟩ | ⟨d1, d2⟩
          · obtain rfl := Nat.eq_of_beq_eq_true d1
            obtain rfl := Nat.eq_of_beq_eq_true d2
            exact ms_aast (t0 := 4) C K hd ha hv (by omega) rfl (fun ad us => rfl) c2 (blt_of c3) (Nat.eq_of_beq_eq_true c4) kk
          · obtain rfl := Nat.eq_of_beq_eq_true d1
            obtain rfl := Nat.eq_of_beq_eq_true d2
            exact ms_aast (t0 := 5) C K hd ha hv (by omega) rfl (fun ad us => rfl) c2 (blt_of c3) (Nat.eq_of_beq_eq_true c4) kk
        · cases hst
      · cases hst
    · cases hst
  · cases hst
end MSV
def RmM (cj : Nat) : Room := { frames := 1 + mLev cj, cells := (mBud cj).1, slots := (mBud cj).2, locals := 30 + 30 * mLev cj }
def PM (z : PP) (ad : Nat → Nat) (M : List MT) (a : Nat) : Array Value → State → Prop := va_Pc [.ref (ad a)] (fun U => MK z U ∧ va_P z.1 vwCl (mkW z.2.1 ad M) U.heap ∧ va_D (AB z) (mkW z.2.1 ad M))
def QM (z : PP) (ad : Nat → Nat) (M M' : List MT) : Array Value → State → Outcome → State → Prop := va_Qv (S := Nat → Nat) (fun ad' => ∀ i, i < M.length ∨ i = 167 → ad' i = ad i) (fun ad' t => va_P z.1 vwCl (mkW z.2.1 ad' M') t.heap ∧ va_D (AB z) (mkW z.2.1 ad' M')) (AB z)
def MMet (l : Launch) (z : PP) (cj : Nat) (ad : Nat → Nat) (M : List MT) (a : Nat) (M' : List MT) : Prop :=
  Met l (yM cj) (.code (yM cj) (mBy cj) (nLM cj) none :: gtbl) (RmM cj) (PM z ad M a) (QM z ad M M') (mBud cj).1 (mBud cj).2 (AB z)
def MRoom (R : Room) (ci : Nat) : Prop := 1 + mLev ci ≤ R.frames ∧ 30 + 30 * mLev ci ≤ R.locals ∧ (mBud ci).1 ≤ R.cells ∧ (mBud ci).2 ≤ R.slots
theorem yM_ok : ∀ ci, ci < 9 → plainName (yM ci).cls = true ∧ (yM ci).cls ≠ "java/lang/invoke/MethodHandle" ∧ (yM ci).cls ≠ "java/lang/invoke/VarHandle" ∧ (parseMethodDescriptor (yM ci).desc).map (fun d => d.parameters.length) = some 0 := by decide +kernel
section MSR
variable {p : Program} {l : Launch} {e : Env} {R : Room} {s : State} {m : MethodId} {args : Array Value} {below : List Frame} {meth : Method} {c : Code} {Q : State → Prop}
variable {z : PP} {nL n0 : Nat} {ad0 : Nat → Nat}
theorem goodIn_code {w : Cond} (hw : w ∈ gtbl) : GoodIn gtbl (w :: gtbl) := by
  intro x hx
  have h : x ∈ gtbl := by
    rcases List.mem_cons.mp hx with rfl | h
    · exact hw
    · exact h
  exact ⟨h, good_of_word (List.mem_filter.mp h).2⟩
theorem ms_call {x a cj ci pc cells slots : Nat} {lv : PL} {r : List Value} {M M' : List MT} (C : MX ci nL p s m args c) (K : MK z s) (hci : ci ≤ 9) (hR : MRoom R ci) (hd : decode (mBy ci) pc = .ok (.invokespecial x, 3)) (hx : x < 1000) (hq : mIni (1000 * ci + x) = cj) (hcj : cj < 9) (hlev : mLev cj < mLev ci) (hc : cells + (mBud cj).1 ≤ R.cells) (hs : slots + (mBud cj).2 ≤ R.slots)
    (hr : r.length ≤ 8) (hL : mOkL lv (.ref a :: r) M.length = true) (hn0 : n0 ≤ M.length) (hmet : ∀ ad, MMet l z cj ad M a M')
    (kk : MGoal p l e R s m args below meth c (cells + (mBud cj).1) (slots + (mBud cj).2) Q z nL n0 ad0 (pc + 3) lv r M') : MGoal p l e R s m args below meth c cells slots Q z nL n0 ad0 pc lv (.ref a :: r) M := by
  intro ad H locs ls h0 h1 h2 h3 h4
  have hcat : ∀ {t : List Value}, (∀ v ∈ t, mRx M.length v = true) → catz t ≤ t.length := by
    intro t
    induction t with
    | nil => intro _; exact Nat.le_refl 0
    | cons v t ih =>
      intro hv
      have h1 := ih (fun w hw => hv w (List.mem_cons_of_mem _ hw))
      have h2 := hv v List.mem_cons_self
      cases v with
      | ref _ => show 1 + catz t ≤ t.length + 1; omega
      | int _ => show 1 + catz t ≤ t.length + 1; omega
      | _ => cases h2
  have hsum : ((r.map (img ad)).map fun v => v.category).sum ≤ 8 := by
    rw [catz_eq]
    exact Nat.le_trans (hcat (fun v hv => mOkL_st hL (List.mem_cons_of_mem _ hv))) hr
  have hroom : (RmM cj).frames + 1 ≤ R.frames ∧ 8 + (nLM cj + 11) + (RmM cj).locals ≤ R.locals := by
    have hn : nLM cj ≤ 2 := by unfold nLM; split <;> omega
    obtain ⟨r1, r2, -, -⟩ := hR
    refine ⟨?_, ?_⟩
    · show 1 + mLev cj + 1 ≤ _
      omega
    · show 8 + (nLM cj + 11) + (30 + 30 * mLev cj) ≤ _
      omega
  have S : CallFix p m c (mBy ci) nL s args gtbl (ownN ci) := C
  have hy := yM_ok cj hcj
  have pre : PreS s H (PM z ad M a) (.ref (ad a) :: []) := ⟨fun _ U g mk q => ⟨q.1, MK.go (U := U.calling g mk _) q.2.1 (State.WarmedH.refl U) (Nat.le_refl _), q.2.2⟩, fun U hU hW => ⟨rfl, MK.go K hW (by rw [hU]; exact h3.1), by rw [hU]; exact h1, h2⟩⟩
  have run : va_Run p l e R s m args below meth c H locs cells slots (mBud cj).1 (mBud cj).2 (F0 m pc ls (.ref (ad a) :: r.map (img ad))) (r.map (img ad)) (QM z ad M M' (Value.ref (ad a) :: []).toArray) (AB z) := by
    have hw := mIni_at hci hx (by omega : mIni (1000 * ci + x) < 9)
    rw [hq] at hw
    have hini : (Cond.initialized (yM cj).cls).before args s = true := C.2.2.2.2 _ (mOkW_in (mw_ini cj hcj))
    have hins : (Cond.instanceMethod (yM cj)).before args s = true := C.2.2.2.2 _ (mOkW_in (mw_ins cj hcj))
    rcases hw with hw | hw
    · exact va_runI (As := []) S (hmet ad) (cwI 0 C.2.2.2.2 (goodIn_code (mOkW_in (mw_code cj hcj))) rfl rfl rfl hini (C.2.2.2.2 _ hw) hins rfl hy.2 hroom) pre rfl rfl (show ls.size = nL from h4.1) rfl (by show 2 * 0 + _ ≤ 8; omega) hd ⟨hc, hs⟩
    · exact va_runIN (As := []) (host := "WindyTours") S (hmet ad) ⟨va_cnB 0 C.2.2.2.2 (goodIn_code (mOkW_in (mw_code cj hcj))) rfl rfl rfl (K.2.1 _ hw rfl) hini hy.2 hroom, rfl, hins⟩ pre rfl rfl (show ls.size = nL from h4.1) rfl (by show 2 * 0 + _ ≤ 8; omega) hd ⟨hc, hs⟩
  refine va_callv run h3 (fun q _ h => h) (fun q h => h) (fun ad' t H1 locs1 ht _ hag hB _ _ hS => ?_)
  obtain ⟨b1, b2⟩ := hB
  rw [ht] at b1
  have h5 := kk ad' H1 locs1 ls (fun i hi => (hag i (by omega)).trans (h0 i hi)) b1 b2 hS (LH_ag hag h4 (fun i v hv => mOkL_lv hL hv))
  rw [st_ag hag (fun v hv => mOkL_st hL (List.mem_cons_of_mem _ hv))] at h5
  exact h5
def MFin (ci pcE : Nat) : Prop := (ci < 9 ∧ decode (mBy ci) pcE = .ok (.return_, 1))
end MSR
/-- the run, from anywhere -/
def MRunOK (l : Launch) (z : PP) (ci pc : Nat) (lv : PL) (st : List Value) (M : List MT) (cnt sl : Nat) (lvE : PL) (ME : List MT) (cE sE : Nat) : Prop :=
  ∀ (p : Program) (e : Env) (R : Room) (s : State) (m : MethodId) (args : Array Value) (below : List Frame) (meth : Method) (c : Code) (Q : State → Prop) (nL n0 : Nat) (ad0 : Nat → Nat), MX ci nL p s m args c → MK z s → (ci < 9 → meth.name = "<init>") → MRoom R ci → lv.length = nL → n0 ≤ M.length →
    (∀ pcE, MFin ci pcE → MGoal p l e R s m args below meth c cE sE Q z nL n0 ad0 pcE lvE [] ME) → MGoal p l e R s m args below meth c cnt sl Q z nL n0 ad0 pc lv st M
theorem lvM_ok (cj a : Nat) : (some (Value.ref a) :: List.replicate (if Nat.beq cj 1 then 1 else 0) (none : Option Value)).length = nLM cj := by
  unfold nLM
  cases Nat.beq cj 1 <;> rfl
theorem mmet_of {l : Launch} {z : PP} {cj a c' s' : Nat} {M M' : List MT} {lvE : PL} (hcj : cj < 9) (hM : a < M.length ∨ a = 167) (h : MRunOK l z cj 0 (some (.ref a) :: List.replicate (if Nat.beq cj 1 then 1 else 0) none) [] M 0 0 lvE M' c' s') (hc : c' ≤ (mBud cj).1) (hs : s' ≤ (mBud cj).2) : ∀ ad, MMet l z cj ad M a M' := by
  intro ad
  refine Met.ofW (cc := mBy cj) (maxL := nLM cj) (ret := none) (yM_ok cj hcj).1 rfl ?_
  intro p e s m args below meth c s₁ B hml hv
  obtain ⟨rfl, hK, hP, hD⟩ := hv
  have hr := B.returns
  have hts := atoms_spec (ws := .code (yM cj) (mBy cj) (nLM cj) none :: gtbl) B.pre
  have hown : s.vm.findClass (ownN cj) = some m.cls := findClass_of_methodNamed B.named
  have hlocks := B.notSynchronized
  have hin : meth.name = "<init>" := (name_of_methodNamed B.named B.method).1
  have C : MX cj (nLM cj) p s m ([Value.ref (ad a)] : List Value).toArray c := ⟨B.exec, B.bytes, hml, hown, fun w hw => hts w (List.mem_cons_of_mem _ hw)⟩
  have hle : (lg_sl ([Value.ref (ad a)] : List Value)).length ≤ nLM cj := by
    show 1 ≤ nLM cj
    unfold nLM
    split <;> omega
  have hl := lv_entry ([Value.ref (ad a)] : List Value) (n := nLM cj) hle
  rw [lg_entry_eq]
  have fin : ∀ pcE, MFin cj pcE → MGoal p l e (RmM cj) s m ([Value.ref (ad a)] : List Value).toArray below meth c c' s' (MQ below (QM z ad M M') ([Value.ref (ad a)] : List Value).toArray s (mBud cj).1 (mBud cj).2 (AB z)) z (nLM cj) M.length ad pcE lvE [] M' := by
    intro pcE hF ad' H locs ls hag hP hD hS hl
    have hd : decode (mBy cj) pcE = .ok (.return_, 1) := hF.2
    refine W.widen hc hs ?_
    exact W.vret B.exec B.bytes hr (fun t ht hW => ⟨⟨ad', rfl, fun i hi => hag i hi, by rw [ht]; exact hP, hD⟩, hS.F ht⟩) hS.2.2 hd hlocks
  exact h p e (RmM cj) s m _ below meth c _ (nLM cj) M.length ad C hK (fun _ => hin) ⟨Nat.le_refl _, Nat.le_refl _, Nat.le_refl _, Nat.le_refl _⟩ (lvM_ok cj a) (Nat.le_refl _) fin ad s.heap [] _ (fun _ _ => rfl) hP hD va_S.rf ⟨hl.1, hl.2.1, fun i v g => by
    rw [lgo_j] at g
    cases i with
    | zero =>
      have g2 : some (Value.ref a) = some v := g
      cases g2
      exact hl.2.2 (0, .ref (ad a)) List.mem_cons_self
    | succ i =>
      rw [List.getElem?_cons_succ, List.getElem?_replicate] at g
      by_cases q : i < (if Nat.beq cj 1 then 1 else 0)
      · rw [if_pos q] at g
        have g2 : (none : Option Value) = some v := g
        cases g2
      · rw [if_neg q] at g
        have g2 : (none : Option Value) = some v := g
        cases g2⟩
theorem mrun_ok {l : Launch} {z : PP} : ∀ (n ci pc : Nat) (lv : PL) (st : List Value) (M : List MT) (cnt sl : Nat) (lvE : PL) (ME : List MT) (cE sE : Nat), mRun n ci pc lv st M cnt sl = some (lvE, ME, cE, sE) → ci ≤ 9 → mOk M = true → M.length ≤ 167 →
    (mOk ME = true ∧ ME.length ≤ 167 ∧ M.length ≤ ME.length) ∧ MRunOK l z ci pc lv st M cnt sl lvE ME cE sE := by
  intro n
  induction n with
  | zero => intro ci pc lv st M cnt sl lvE ME cE sE h; cases h
  | succ n IH =>
    intro ci pc lv st M cnt sl lvE ME cE sE h hci hM hM2
    unfold mRun at h
    split at h
    · rename_i hd
      split at h
      · rename_i hb
        cases h
        exact ⟨⟨hM, hM2, Nat.le_refl _⟩, fun p e R s m args below meth c Q nL n0 ad0 C K hnm hR hnl hn0 fin => fin pc ⟨blt_of hb, hd⟩⟩
      · cases h
    · rename_i x hd
      split at h
      · rename_i a r
        split at h
        · rename_i hq
          split at h
          · rename_i hb
            simp only [Bool.and_eq_true] at hb
            obtain ⟨⟨b1, b2⟩, b3⟩ := hb
            obtain ⟨i1, i2⟩ := IH ci (pc + 3) lv r M cnt sl lvE ME cE sE h hci hM hM2
            refine ⟨i1, fun p e R s m args below meth c Q nL n0 ad0 C K hnm hR hnl hn0 fin => ?_⟩
            exact ms_objInit C hci hd (blt_of b2) (Nat.eq_of_beq_eq_true hq) (Nat.le_of_ble_eq_true b1) b3 ⟨by have := hR.1; omega, by have := hR.2.1; omega⟩ (i2 p e R s m args below meth c Q nL n0 ad0 C K hnm hR hnl hn0 fin)
          · cases h
        · rename_i hq
          split at h
          · rename_i hb
            simp only [Bool.and_eq_true] at hb
            obtain ⟨⟨⟨⟨⟨⟨⟨⟨b1, b2⟩, b3⟩, b4⟩, b5⟩, b6⟩, b7⟩, b8⟩, b9⟩ := hb
            split at h
            · rename_i lv2 M' c' s' hrun
              split at h
              · rename_i hb2
                simp only [Bool.and_eq_true] at hb2
                obtain ⟨⟨d1, d2⟩, d3⟩ := hb2
                obtain ⟨j1, j2⟩ := IH _ 0 _ _ M 0 0 _ _ _ _ hrun (by have := blt_of b1; omega) hM hM2
                obtain ⟨i1, i2⟩ := IH ci (pc + 3) lv r M' _ _ lvE ME cE sE h hci j1.1 j1.2.1
                refine ⟨⟨i1.1, i1.2.1, Nat.le_trans j1.2.2 i1.2.2⟩, fun p e R s m args below meth c Q nL n0 ad0 C K hnm hR hnl hn0 fin => ?_⟩
                have ha : a < M.length ∨ a = 167 := by
                  have := mOkL_st b7 (List.mem_cons_self : Value.ref a ∈ Value.ref a :: r)
                  unfold mRx at this
                  rw [Bool.or_eq_true] at this
                  rcases this with q | q
                  · exact Or.inl (blt_of q)
                  · exact Or.inr (Nat.eq_of_beq_eq_true q)
                exact ms_call C K hci hR hd (blt_of b6) rfl (blt_of b1) (blt_of b2) (Nat.le_trans (Nat.le_of_ble_eq_true b3) hR.2.2.1) (Nat.le_trans (Nat.le_of_ble_eq_true b4) hR.2.2.2) (Nat.le_of_ble_eq_true b5) b7 hn0
                  (mmet_of (blt_of b1) ha j2 (Nat.le_of_ble_eq_true d1) (Nat.le_of_ble_eq_true d2)) (i2 p e R s m args below meth c Q nL n0 ad0 C K hnm hR hnl (Nat.le_trans hn0 j1.2.2) fin)
              · cases h
            · cases h
          · cases h
      · cases h
    · split at h
      · rename_i pc' lv' st' M' dc ds hst
        split at h
        · rename_i hb
          simp only [Bool.and_eq_true] at hb
          obtain ⟨⟨⟨⟨⟨b1, b2⟩, b3⟩, b4⟩, b5⟩, b6⟩ := hb
          obtain ⟨i1, i2⟩ := IH ci pc' lv' st' M' _ _ lvE ME cE sE h hci b3 (Nat.le_of_ble_eq_true b4)
          refine ⟨⟨i1.1, i1.2.1, Nat.le_trans (Nat.le_of_ble_eq_true b5) i1.2.2⟩, fun p e R s m args below meth c Q nL n0 ad0 C K hnm hR hnl hn0 fin => ?_⟩
          exact ms_step C K hci hnm hst hM (Nat.le_of_ble_eq_true b4) b6 hn0 hnl (Nat.le_trans (Nat.le_of_ble_eq_true b1) hR.2.2.1) (Nat.le_trans (Nat.le_of_ble_eq_true b2) hR.2.2.2) (i2 p e R s m args below meth c Q nL n0 ad0 C K hnm hR ((mStep_len hst).trans hnl) (Nat.le_trans hn0 (Nat.le_of_ble_eq_true b5)) fin)
        · cases h
      · cases h
