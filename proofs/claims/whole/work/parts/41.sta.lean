/-! FROM THE LAW'S ENTRY TO ITS END, once the loop is known -/
def R_law : String := "WindyToursLaw"
def lw_P (b : Addr) (xs : List Int32) (args : Array Value) (s : State) : Prop := args = #[.ref b] ∧ s.IntsAt b xs ∧ xs.length ≤ 3072 ∧ (Jvm.Cond.and given_1 narrow_1).before args s = true
def lw_Q (_ : Array Value) (s : State) (o : Outcome) (t : State) : Prop := o = .returned (some (.int 1)) ∧ Framed s o t [] 601024 7293034
def lw_Z (below : List Frame) (a : Array Value) (s : State) : State → Prop := fun t => ∃ o, t.status = .running ∧ Ended t below o ∧ lw_Q a s o t
/-- the law's own end, with 1 on the stack, nothing written that was there before, its room as the claim has it -/
theorem lw_ret {p : Program} {l : Launch} {e : Env} {s : State} {m : MethodId} {below : List Frame} {meth : Method} {c : Code} {b : Nat} (hx : p.tables.exec = Jvm.exec) (hb : c.code = code) (hr : meth.sig.returnType = ret) (hlocks : meth.locks = false) {pc : Nat} {H : Heap} {ls : Array Slot} (hdg : decode code pc = .ok (.ireturn, 1)) : W p l e room_1 s m #[Value.ref b] below meth c H [] 601024 7293034 (lw_Z below #[Value.ref b] s) (F0 m pc ls [.int 1]) := by
  intro T hT X
  obtain ⟨fs, hret, hrun, hended, hW, hframe⟩ := X.leave (v := some (.int 1)) (hlocks := hlocks) (fun h => by rw [hr] at h; cases h)
  have hmeth' : T.vm.method? m = some meth := X.method'
  refine ⟨T.setFrames fs, ?_, .returned (some (.int 1)), hrun, hended, rfl, ⟨_, rfl⟩, hW, hframe⟩
  jvm_step X.here [X.here.top, hx, hb, hdg, hmeth', hr, ret, narrow_b1]
  (try refine ⟨rfl, ?_⟩); (try refine ⟨rfl, ?_⟩)
  first | (intro acts; rw [hret _ acts rfl rfl rfl]) | rw [hret _ _ rfl rfl rfl]
  exact Steps.refl _
/-- what holds at the law's entry -/
def lw_At (p : Program) (s : State) (m : MethodId) (meth : Method) (c : Code) (b L : Nat) (xs : Nat → Int32) : Prop :=
  p.tables.exec = Jvm.exec ∧ c.code = code ∧ meth.sig.returnType = ret ∧ c.maxLocals = 7 ∧ s.vm.findClass R_law = some m.cls ∧ (∀ w ∈ lw_tbl, w.before #[Value.ref b] s = true) ∧ va_X b L xs s s.heap ∧ b < s.heap.size ∧ meth.locks = false ∧ (Jvm.Cond.and given_1 narrow_1).before #[Value.ref b] s = true ∧ c.exceptionTable.toList = []
theorem l_flags {l : Launch} (h : l.flags = flags0) : l.stackTraces = false := by
  unfold Launch.stackTraces
  rw [h]
  decide +kernel
theorem ret_dec {k pc nx a b t : Nat} {v : Int32} {w : Int64} (hm : (miOf k).1 pc = some (.ireturn, nx, a, b, t, v, w)) : decode (ccOf k) pc = .ok (.ireturn, 1) :=
  (chk3 (A := decode (ccOf k) pc = .ok (.ireturn, ilen .ireturn)) (n := nx) (m := pc + ilen .ireturn) (B := Nat.blt (pidx .ireturn) 1000 && chkI k pc .ireturn a b t v w) (chkE_at hm)).1
theorem start_open {p : Program} {e : Env} {s : State} {m : MethodId} {below : List Frame} {meth : Method} {c : Code} (l : Launch) (hflags : l.flags = flags0) {b L : Nat} {xs : Nat → Int32} (hL : L ≤ 3072) {d : Nat} (hd : d ≤ 1000) (hlaw : LawOK d) (C0 : lw_At p s m meth c b L xs) : W p l e room_1 s m #[Value.ref b] below meth c s.heap [] 0 0 (lw_Z below #[Value.ref b] s) (entryFrame m ([Value.ref b] : List Value).toArray 7) := by
  obtain ⟨hx, hb, hr, hml, hown, hts, hX, hbl, hlocks, hgv, htab⟩ := C0
  have hn : ∀ w ∈ flatC narrow_1, w.before #[Value.ref b] s = true := fun w hw => flat_of_before _ hgv w (List.mem_append_right _ hw)
  obtain ⟨D, cA, hK⟩ := kn_all hts
  obtain ⟨adS, hWT⟩ := ini_WT (ad0 := fun _ => 0) hn hts hK hX hbl
  have hg : ∀ w ∈ gtbl, w.before #[Value.ref b] s = true := fun w hw => hts w (List.mem_filter.mp hw).1
  have kW : ∀ {i : Nat} {w : Cond}, kaW[i]? = some w → w.before #[Value.ref b] s = true := fun h => hts _ (kaW_in _ (List.mem_of_getElem? h))
  have z0K : MK (D, cA, (fun _ => 0), s.heap.size) s := by
    refine ⟨hK _ _, fun w hw hi => ?_, Nat.le_refl _, va_AO.of (kW (i := 4) rfl), va_AO.of (kW (i := 5) rfl), va_AAI.of (kW (i := 6) rfl)⟩
    cases w <;> first | exact va_Nw.of rfl (hts _ hw) | cases hi
  have C : MX 9 7 p s m #[Value.ref b] c := ⟨hx, hb, hml, hown, hg⟩
  obtain ⟨-, hrun⟩ := mrun_ok (l := l) (z := (D, cA, (fun _ => 0), s.heap.size)) 300 9 0 (some (.ref 167) :: List.replicate 6 none) [] [] 0 0 _ _ _ _ mLaw_eq (Nat.le_refl 9) rfl (Nat.zero_le _)
  have fin : ∀ pcE, MFin 9 pcE → MGoal p l e room_1 s m #[Value.ref b] below meth c 167 24721 (lw_Z below #[Value.ref b] s) (D, cA, (fun _ => 0), s.heap.size) 7 0 (fun i => if i = 167 then b else 0) pcE [some (.ref 167), some (.ref 0), some (.ref 122), some (.ref 166), some (.int 0), none, none] [] mMade := by
    intro pcE hF ad' H locs ls hag hP hD hS hl
    have hpc : pcE = 23 := by
      rcases hF with ⟨q, -⟩ | ⟨-, q⟩
      · omega
      · exact q
    subst hpc
    have h167 : ad' 167 = b := by
      rw [hag 167 (Or.inr rfl)]
      exact if_pos rfl
    generalize hz : zAt D cA ad' adS b s.heap.size = z
    have z1 : z.1 = D := by rw [← hz]; rfl
    have z2 : A0 z = fun q => s.heap.size ≤ q := by rw [← hz]; rfl
    have zr : ∀ i, i < 167 → z.2.2.1 i = ad' (mPi i) := fun i hi => by rw [← hz]; exact if_pos hi
    have zb : z.2.2.1 167 = b := by
      rw [← hz]
      show (if (167 : Nat) < 167 then ad' (mPi 167) else if (167 : Nat) = 167 then b else adS (167 - SB)) = b
      rw [if_neg (by omega), if_pos rfl]
    have hwf : WF z := by rw [← hz]; exact made_WF hD hbl
    have hwt : WT z L xs s := by
      rw [← hz]
      refine hWT _ ?_ (fun j hj => ?_)
      · show (if (167 : Nat) < 167 then ad' (mPi 167) else if (167 : Nat) = 167 then b else adS (167 - SB)) = b
        rw [if_neg (by omega), if_pos rfl]
      · show (if SB + j < 167 then ad' (mPi (SB + j)) else if SB + j = 167 then b else adS (SB + j - SB)) = adS j
        have hSB : SB = 1000 := rfl
        rw [if_neg (by omega), if_neg (by omega), show SB + j - SB = j by omega]
    have hPw : va_P z.1 vwCl (wd z (hIni L xs)) H := by
      rw [z1, ← hz]
      exact made_P hP
    have hSz : va_S (A0 z) s.heap H locs := by rw [z2]; exact hS
    obtain ⟨n, hpw⟩ := hlaw L xs hL
    have CX2 : CX 221 p s m #[Value.ref b] c := ⟨hx, hb, hml, hown, hg⟩
    have HS := str_rule (l := l) (e := e) (R := room_1) (below := below) (meth := meth) CX2 hwt ⟨Nat.le_of_ble_eq_true rfl, Nat.le_of_ble_eq_true rfl⟩
    have wk := walk (Qf := fun o (_ : PH) => o = .inl (some (.int 1))) (Q := lw_Z below #[Value.ref b] s) (R := room_1) (meth := meth) (below := below) (e := e) (c0 := 167) (s0 := 24721) (d := d) hwf hL (sound (l_flags hflags) hwf hL d) CX2 hwt HS (by omega) (by rw [htab]; rfl)
      ⟨by show 21 + d ≤ 2048; omega, by show 328 + 60 * d ≤ 84000; omega, Nat.le_of_ble_eq_true rfl, Nat.le_of_ble_eq_true rfl⟩
      (fun pc e0 lv st h cnt o hm hp hQ hc => by
        intro H1 locs1 ls1 hP1 hS1 hq1 hl1
        cases hQ
        obtain ⟨i, nx, a, b2, t, v, w⟩ := e0
        have hcb : cnt ≤ 20000 := hc
        rcases pret_spec hp with ⟨hi, x, rfl, hx9⟩ | ⟨hi, x, rfl, h3, h4⟩ | ⟨hi, rfl, h0, h4⟩
        · obtain rfl : i = .ireturn := hi
          have hd9 : decode (ccOf 221) pc = .ok (.ireturn, 1) := ret_dec hm
          have hx1 : x = 1 := by
            rcases hx9 with ⟨-, q⟩ | ⟨-, -, q⟩
            · cases q; rfl
            · cases q; rfl
          subst hx1
          refine va_forget (fun q hq => ?_) (W.widen (k := 601024) (n := 7293034) (by omega) (by omega) (lw_ret hx hb hr hlocks hd9))
          have h9 := hS1.2.2 q hq
          rw [z2] at h9
          exact h9
        · cases h4
        · cases h4)
      (fun pc e0 lv st h cnt E hm hp hQ hc hz2 => by cases hQ)
      (fun pc ls rest h cnt H1 locs1 E ce q hh hQ => by cases hQ)
      n 23 _ _ (hIni L xs) 0 hpw (Nat.zero_le _)
    refine wk H locs ls hPw hSz hIni_scr ⟨hl.1, hl.2.1, fun i v g => ?_⟩
    have h9 := hl.2.2 i v g
    rw [lgo_j] at g
    have hi : i < 7 := by
      cases hgi : ([some (Value.ref 167), some (.ref 0), some (.ref 122), some (.ref 166), some (.int 0), none, none] : PL)[i]? with
      | none => rw [hgi] at g; cases g
      | some o => exact (List.getElem?_eq_some_iff.mp hgi).1
    have e0 : z.2.2.1 0 = ad' 0 := zr 0 (by omega)
    have e1 : z.2.2.1 122 = ad' 122 := zr 122 (by omega)
    have e2 : z.2.2.1 166 = ad' 166 := zr 166 (by omega)
    have e3 : z.2.2.1 167 = ad' 167 := zb.trans h167.symm
    have : i = 0 ∨ i = 1 ∨ i = 2 ∨ i = 3 ∨ i = 4 ∨ i = 5 ∨ i = 6 := by omega
    rcases this with rfl | rfl | rfl | rfl | rfl | rfl | rfl
    · have g2 : some (Value.ref 167) = some v := g
      cases g2
      rw [h9]
      exact congrArg (fun y => some (Slot.val (Value.ref y))) e3.symm
    · have g2 : some (Value.ref 0) = some v := g
      cases g2
      rw [h9]
      exact congrArg (fun y => some (Slot.val (Value.ref y))) e0.symm
    · have g2 : some (Value.ref 122) = some v := g
      cases g2
      rw [h9]
      exact congrArg (fun y => some (Slot.val (Value.ref y))) e1.symm
    · have g2 : some (Value.ref 166) = some v := g
      cases g2
      rw [h9]
      exact congrArg (fun y => some (Slot.val (Value.ref y))) e2.symm
    · have g2 : some (Value.int 0) = some v := g
      cases g2
      exact h9
    · have g2 : (none : Option Value) = some v := g
      cases g2
    · have g2 : (none : Option Value) = some v := g
      cases g2
  have hl := lv_entry ([Value.ref b] : List Value) (n := 7) (by show 1 ≤ 7; omega)
  rw [lg_entry_eq]
  have ad00 : (fun i : Nat => if i = 167 then b else 0) 167 = b := if_pos rfl
  exact hrun p e room_1 s m _ below meth c _ 7 0 (fun i => if i = 167 then b else 0) C z0K (fun h => absurd h (Nat.lt_irrefl 9)) ⟨Nat.le_of_ble_eq_true rfl, Nat.le_of_ble_eq_true rfl, Nat.le_of_ble_eq_true rfl, Nat.le_of_ble_eq_true rfl⟩ rfl (Nat.le_refl _) fin (fun i => if i = 167 then b else 0) s.heap [] _ (fun _ _ => rfl) (fun k q hq => (by cases hq)) ⟨fun i j p q hi => (by cases hi), fun k q hq => (by cases hq)⟩ va_S.rf ⟨hl.1, hl.2.1, fun i v g => by
    rw [lgo_j] at g
    cases i with
    | zero =>
      have g2 : some (Value.ref 167) = some v := g
      cases g2
      have h9 := hl.2.2 (0, .ref b) List.mem_cons_self
      rw [h9]
      exact congrArg (fun y => some (Slot.val (Value.ref y))) ad00.symm
    | succ i =>
      rw [List.getElem?_cons_succ, List.getElem?_replicate] at g
      by_cases q : i < 6
      · rw [if_pos q] at g
        have g2 : (none : Option Value) = some v := g
        cases g2
      · rw [if_neg q] at g
        have g2 : (none : Option Value) = some v := g
        cases g2⟩
