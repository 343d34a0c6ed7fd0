/-! THE LAW'S LOOP: what is left to say of it is pure -/
/-- one turn: it comes to the loop's head again, all agreed, and makes no more than this -/
def TurnOK (L : Nat) (xs : Nat → Int32) : Prop := ∀ (j cA sA : Nat), j < L → j < 2 → ∃ S1 : gST, F_L_turn (hIni L xs, ([], cA, sA)) 1 (nI j) = some (.inl (1, nI j + 1, S1)) ∧ S1.2.2.1 ≤ cA + 295000 ∧ S1.2.2.2 ≤ sA + 2000000
theorem gwd_D {z : PP} (hf : GF z) (h : PH) : va_D (AB z) (wd z h) := ⟨(wd_D hf.wf h).1, fun k q hq => hf.sub _ ((wd_D hf.wf h).2 k q hq)⟩
def R_law : String := "WindyToursLaw"
def lw_Q (_ : Array Value) (s : State) (o : Outcome) (t : State) : Prop := o = .returned (some (.int 1)) ∧ Framed s o t [] room_1.cells room_1.slots
def lw_Z (below : List Frame) (a : Array Value) (s : State) : State → Prop := fun t => ∃ o, t.status = .running ∧ Ended t below o ∧ lw_Q a s o t
theorem lw_ret {p : Program} {l : Launch} {e : Env} {s : State} {m : MethodId} {below : List Frame} {meth : Method} {c : Code} {b : Nat} (hx : p.tables.exec = Jvm.exec) (hb : c.code = code) (hr : meth.sig.returnType = ret) (hlocks : meth.locks = false) {pc : Nat} {H : Heap} {ls : Array Slot} (hdg : decode code pc = .ok (.ireturn, 1)) : W p l e room_1 s m #[Value.ref b] below meth c H [] room_1.cells room_1.slots (lw_Z below #[Value.ref b] s) (F0 m pc ls [.int 1]) := by
  intro T hT X
  obtain ⟨fs, hret, hrun, hended, hW, hframe⟩ := X.leave (v := some (.int 1)) (hlocks := hlocks) (fun h => by rw [hr] at h; cases h)
  have hmeth' : T.vm.method? m = some meth := X.method'
  refine ⟨T.setFrames fs, ?_, .returned (some (.int 1)), hrun, hended, rfl, ⟨_, rfl⟩, hW, hframe⟩
  jvm_step X.here [X.here.top, hx, hb, hdg, hmeth', hr, ret, narrow_b1]
  (try refine ⟨rfl, ?_⟩); (try refine ⟨rfl, ?_⟩)
  first | (intro acts; rw [hret _ acts rfl rfl rfl]) | rw [hret _ _ rfl rfl rfl]
  exact Steps.refl _
def lw_At (p : Program) (s : State) (m : MethodId) (meth : Method) (c : Code) (b L : Nat) (xs : Nat → Int32) : Prop :=
  p.tables.exec = Jvm.exec ∧ c.code = code ∧ meth.sig.returnType = ret ∧ c.maxLocals = 25 ∧ s.vm.findClass R_law = some m.cls ∧ (∀ w ∈ lw_tbl, w.before #[Value.ref b] s = true) ∧ va_X b L xs s s.heap ∧ b < s.heap.size ∧ meth.locks = false ∧ (Jvm.Cond.and given_1 narrow_1).before #[Value.ref b] s = true ∧ meth.name = (gyO 74).name
theorem l_flags {l : Launch} (h : l.flags = flags0) : l.stackTraces = false := by
  unfold Launch.stackTraces
  rw [h]
  decide +kernel
theorem dcd_4 : decode code 4 = .ok (.iload_n 2, 1) := by decide +kernel
theorem dcd_5 : decode code 5 = .ok (.aload_n 0, 1) := by decide +kernel
theorem dcd_6 : decode code 6 = .ok (.arraylength, 1) := by decide +kernel
theorem dcd_7 : decode code 7 = .ok (.if_icmp .ge 1231, 3) := by decide +kernel
theorem dcd_10 : decode code 10 = .ok (.iload_n 2, 1) := by decide +kernel
theorem dcd_11 : decode code 11 = .ok (.iconst 2, 1) := by decide +kernel
theorem dcd_12 : decode code 12 = .ok (.if_icmp .ge 1226, 3) := by decide +kernel
theorem dcd_15 : decode code 15 = .ok (.iload_n 1, 1) := by decide +kernel
theorem dcd_16 : decode code 16 = .ok (.ifCond .eq 1222, 3) := by decide +kernel
theorem dcd_19 : decode (mBy 9) 19 = .ok (.new 14, 3) := by decide +kernel
theorem dcd_22 : decode (mBy 9) 22 = .ok (.dup, 1) := by decide +kernel
theorem dcd_23 : decode (mBy 9) 23 = .ok (.invokespecial 240, 3) := by decide +kernel
theorem dcd_26 : decode (mBy 9) 26 = .ok (.astore_n 3, 1) := by decide +kernel
theorem dcd_1238 : decode code 1238 = .ok (.iload_n 1, 1) := by decide +kernel
theorem dcd_1239 : decode code 1239 = .ok (.ireturn, 1) := by decide +kernel
theorem dcd_0 : decode code 0 = .ok (.iconst 1, 1) := by decide +kernel
theorem dcd_1 : decode code 1 = .ok (.istore_n 1, 1) := by decide +kernel
theorem dcd_2 : decode code 2 = .ok (.iconst 0, 1) := by decide +kernel
theorem dcd_3 : decode code 3 = .ok (.istore_n 2, 1) := by decide +kernel
/-- the law's locals for the maker -/
def gMl (j : Nat) (r : Option Value) : PL := some (.ref 167) :: some (.int 1) :: some (.int (nI j)) :: r :: List.replicate 21 none
section STA
variable {p : Program} {l : Launch} {e : Env} {s : State} {m : MethodId} {below : List Frame} {meth : Method} {c : Code} {b L : Nat} {xs : Nat → Int32}
set_option maxHeartbeats 4000000 in
theorem law_loop (hflags : l.flags = flags0) (hL : L ≤ 260) (hT : TurnOK L xs) (C0 : lw_At p s m meth c b L xs) {D : va_G} {cA adC : Nat → Nat} (hK : ∀ (ad : Nat → Nat) (b : Nat), va_K D vwCl (tyL (D, cA, ad, b)) s) (h167 : adC 167 = b) (h2005 : adC 2005 = b) (hGK : ∀ ad : Nat → Nat, (∀ i, 122 ≤ i → ad i = adC i) → GK (D, cA, ad, s.heap.size) L xs s) :
    ∀ (n j : Nat), n + j = 2 → ∀ (H : Heap) (locs : List Loc) (ls : Array Slot) (cells slots : Nat), va_S (fun q => s.heap.size ≤ q) s.heap H locs → ls.size = 25 → lv_wf ls → ls[0]? = some (.val (.ref b)) → ls[1]? = some (.val (.int 1)) → ls[2]? = some (.val (.int (nI j))) → cells ≤ j * 295200 → slots ≤ j * 2005000 →
      W p l e room_1 s m #[Value.ref b] below meth c H locs cells slots (lw_Z below #[Value.ref b] s) (F0 m 4 ls []) := by
  obtain ⟨hx, hb, hr, hml, hown, hts, hX, hbl, hlocks, hgv, hnm⟩ := C0
  have hrc : 595000 ≤ room_1.cells := Nat.le_of_ble_eq_true rfl
  have hrs : 4100000 ≤ room_1.slots := Nat.le_of_ble_eq_true rfl
  have hbA : ¬ (fun q => s.heap.size ≤ q) b := fun q => by
    have q : s.heap.size ≤ b := q
    omega
  have hg : ∀ w ∈ gtbl, w.before #[Value.ref b] s = true := fun w hw => hts w (List.mem_filter.mp hw).1
  have kW : ∀ {i : Nat} {w : Cond}, kaW[i]? = some w → w.before #[Value.ref b] s = true := fun h => hts _ (kaW_in _ (List.mem_of_getElem? h))
  have z0K : MK (D, cA, (fun _ => 0), s.heap.size) s := by
    refine ⟨hK _ _, fun w hw hi => ?_, Nat.le_refl _, va_AO.of (kW (i := 4) rfl), va_AO.of (kW (i := 5) rfl), va_AAI.of (kW (i := 6) rfl)⟩
    cases w <;> first | exact va_Nw.of rfl (hts _ hw) | cases hi
  have CM : MX 9 25 p s m #[Value.ref b] c := ⟨hx, hb, hml, hown, hg⟩
  intro n
  induction n with
  | zero =>
    intro j hj H locs ls cells slots hS hs1 hs2 hs3 hs4 hs5 hc hs
    obtain rfl : j = 2 := by omega
    have fin : ∀ (cells slots : Nat), cells ≤ room_1.cells → slots ≤ room_1.slots → W p l e room_1 s m #[Value.ref b] below meth c H locs cells slots (lw_Z below #[Value.ref b] s) (F0 m 1238 ls []) := fun cells slots h1 h2 =>
      lv_iload_n hx hb dcd_1238 rfl hs4 (va_forget (fun q hq => hS.2.2 q hq) (W.widen (k := room_1.cells) (n := room_1.slots) h1 h2 (lw_ret hx hb hr hlocks dcd_1239)))
    refine lv_iload_n hx hb dcd_4 rfl hs5 ?_
    refine lv_aload_n hx hb dcd_5 rfl hs3 ?_
    refine va_slen hx hb hX hbl hbA hS dcd_6 ?_
    refine lv_icmp_ge (tgt := 1238) hx hb dcd_7 (by decide) (fun _ => fin _ _ (by omega) (by omega)) (fun _ => ?_)
    refine lv_iload_n hx hb dcd_10 rfl hs5 ?_
    refine lv_iconst (v := 2) hx hb dcd_11 (by decide) ?_
    exact lv_icmp_ge (tgt := 1238) hx hb dcd_12 (by decide) (fun _ => fin _ _ (by omega) (by omega)) (fun q => absurd (by decide) q)
  | succ n ih =>
    intro j hj H locs ls cells slots hS hs1 hs2 hs3 hs4 hs5 hc hs
    have hj2 : j < 2 := by omega
    have fin : ∀ (cells slots : Nat), cells ≤ room_1.cells → slots ≤ room_1.slots → W p l e room_1 s m #[Value.ref b] below meth c H locs cells slots (lw_Z below #[Value.ref b] s) (F0 m 1238 ls []) := fun cells slots h1 h2 =>
      lv_iload_n hx hb dcd_1238 rfl hs4 (va_forget (fun q hq => hS.2.2 q hq) (W.widen (k := room_1.cells) (n := room_1.slots) h1 h2 (lw_ret hx hb hr hlocks dcd_1239)))
    have hcb : cells ≤ 295200 := by
      have : j = 0 ∨ j = 1 := by omega
      rcases this with rfl | rfl <;> omega
    have hsb : slots ≤ 2005000 := by
      have : j = 0 ∨ j = 1 := by omega
      rcases this with rfl | rfl <;> omega
    refine lv_iload_n hx hb dcd_4 rfl hs5 ?_
    refine lv_aload_n hx hb dcd_5 rfl hs3 ?_
    refine va_slen hx hb hX hbl hbA hS dcd_6 ?_
    refine lv_icmp_ge (tgt := 1238) hx hb dcd_7 (by decide) (fun _ => fin _ _ (by omega) (by omega)) (fun hlt => ?_)
    have hjL : j < L := by
      rcases Nat.lt_or_ge j L with q | q
      · exact q
      · refine absurd ?_ hlt
        exact (Int32.ofNat_le_ofNat (by omega) (by omega)).mpr q
    refine lv_iload_n hx hb dcd_10 rfl hs5 ?_
    refine lv_iconst (v := 2) hx hb dcd_11 (by decide) ?_
    refine lv_icmp_ge (tgt := 1238) hx hb dcd_12 (by decide) (fun _ => fin _ _ (by omega) (by omega)) (fun _ => ?_)
    refine lv_iload_n hx hb dcd_15 rfl hs4 ?_
    refine lv_if_eq (tgt := 1238) hx hb dcd_16 (by decide) (fun q => absurd q (by decide)) (fun _ => ?_)
    -- a new object of the class
    obtain ⟨⟨hMm, -, -⟩, hrun⟩ := mrun_ok (l := l) (z := (D, cA, (fun _ => 0), s.heap.size)) 300 7 0 [some (.ref 0)] [] [(0, 7, mDef 7)] 0 0 _ _ _ _ mLaw_eq (by omega) (by decide +kernel) (by decide)
    have hmet := mmet_of (l := l) (z := (D, cA, (fun _ => 0), s.heap.size)) (cj := 7) (a := 0) (M := [(0, 7, mDef 7)]) (by omega) (Or.inl (by decide)) hrun (Nat.le_refl _) (Nat.le_refl _)
    have hMR : MRoom room_1 9 := ⟨Nat.le_of_ble_eq_true rfl, Nat.le_of_ble_eq_true rfl, Nat.le_of_ble_eq_true rfl, Nat.le_of_ble_eq_true rfl⟩
    have h9 : MGoal p l e room_1 s m #[Value.ref b] below meth c (cells + 1 + 121) (slots + fN 7 + 4760) (lw_Z below #[Value.ref b] s) (D, cA, (fun _ => 0), s.heap.size) 25 0 (fun i => if i = 167 then b else 0) 27 (gMl j (some (.ref 0))) [] mMade := by
      intro ad' H1 locs1 ls1 hag hP1 hD1 hS1 hl1
      have e167 : ad' 167 = b := (hag 167 (Or.inr rfl)).trans (if_pos rfl)
      generalize hz : zAt D cA ad' adC b s.heap.size = z
      have z1 : z.1 = D := by rw [← hz]; rfl
      have z2 : AB z = fun q => s.heap.size ≤ q := by rw [← hz]; rfl
      have zr : ∀ i, i < 122 → z.2.2.1 i = ad' (mPi i) := fun i hi => by rw [← hz]; exact if_pos hi
      have zc : ∀ i, 122 ≤ i → z.2.2.1 i = adC i := fun i hi => by rw [← hz]; exact if_neg (by omega)
      have hf : GF z := by rw [← hz]; exact made_GF hD1 hbl h167 h2005
      have hK9 : GK z L xs s := by
        rw [← hz]
        exact hGK _ (fun i hi => if_neg (by omega))
      have hPw : va_P z.1 vwCl (gW z (hIni L xs) (fun _ => 0) []) H1 := by
        have : va_P z.1 vwCl (wd z (hIni L xs)) H1 := by
          rw [z1, ← hz]
          exact made_P hP1
        unfold gW gmkW
        rw [List.zipIdx_nil, List.map_nil, List.append_nil]
        exact this
      have hDw : va_D (AB z) (gW z (hIni L xs) (fun _ => 0) []) := by
        unfold gW gmkW
        rw [List.zipIdx_nil, List.map_nil, List.append_nil]
        exact gwd_D hf _
      have hSz : va_S (AB z) s.heap H1 locs1 := by rw [z2]; exact hS1
      obtain ⟨S1, hS9, hc9, hs9⟩ := hT j (cells + 1 + 121) (slots + fN 7 + 4760) hjL hj2
      have hfN : fN 7 ≤ 20 := by decide
      have GX9 : GX 74 p s m #[Value.ref b] c := ⟨hx, hb, hml, hown, hg⟩
      obtain ⟨n9, hpw⟩ := ok_L_turn 60 (by omega) 30 (Nat.le_refl _) (fun _ _ => False) (fun lv S => ggo lv 0 = some (.inr (.inr (some (.inr 5)))) ∧ ggo lv 1 = some (.inl 1) ∧ ggo lv 2 = some (.inl (nI j + 1)) ∧ S = S1) (hIni L xs, ([], cells + 1 + 121, slots + fN 7 + 4760)) 1 (nI j) _ hS9 (fun lv h0 h1 h2 => ⟨h0, h1, h2, rfl⟩)
      have wk := gwalkT (k := 74) (dX := 60) (d := 30) (Q := lw_Z below #[Value.ref b] s) (R := room_1) (meth := meth) (below := below) (e := e) (n0 := 0) (ad0 := fun _ => 0) (c0 := 0) (s0 := 0) (l_flags hflags) hf (by omega : L ≤ 3072) (fun k as S o S' => gsound (l_flags hflags) hf (by omega) 30 k as S o S') GX9 hK9 hnm ⟨Nat.le_of_ble_eq_true rfl, Nat.le_of_ble_eq_true rfl⟩
        (fun lv S' hq => by
          obtain ⟨-, -, -, rfl⟩ := hq
          exact ⟨by show S'.2.2.1 - 0 ≤ room_1.cells; omega, by show S'.2.2.2 - 0 ≤ room_1.slots; omega⟩)
        (fun lv S hq hi _ _ => by
          obtain ⟨g0, g1, g2, rfl⟩ := hq
          intro ad2 H2 locs2 ls2 hag2 hP2 hD2 hS2 hq2 hl2
          refine ih (j + 1) (by omega) H2 locs2 ls2 _ _ (by rw [z2] at hS2; exact hS2) hl2.1 hl2.2.1 ?_ (hl2.2.2 1 _ g1) ?_ (by omega) (by omega)
          · have h5 := hl2.2.2 0 _ g0
            have e5 : gkA z 5 = b := hf.2.2.2.trans ((zc 167 (by omega)).trans h167)
            rw [h5]
            exact congrArg (fun y => some (Slot.val (Value.ref y))) e5
          · have h5 := hl2.2.2 2 _ g2
            rw [h5]
            have : j = 0 ∨ j = 1 := by omega
            rcases this with rfl | rfl <;> rfl)
        n9 27 _ _ _ hpw ⟨rfl, rfl, rfl⟩ (Nat.zero_le _) ⟨Nat.zero_le _, Nat.zero_le _⟩
      refine wk (fun _ => 0) H1 locs1 ls1 (fun _ _ => rfl) hPw hDw hSz hIni_scr ⟨hl1.1, hl1.2.1, fun i v g => ?_⟩
      match i, g with
      | 0, g =>
        cases g
        rw [hl1.2.2 0 (.ref 167) rfl]
        exact congrArg (fun y => some (Slot.val (Value.ref y))) (e167.trans ((hf.2.2.2.trans ((zc 167 (by omega)).trans h167))).symm)
      | 1, g =>
        cases g
        exact hl1.2.2 1 (.int 1) rfl
      | 2, g =>
        cases g
        exact hl1.2.2 2 (.int (nI j)) rfl
      | 3, g =>
        cases g
        rw [hl1.2.2 3 (.ref 0) rfl]
        exact congrArg (fun y => some (Slot.val (Value.ref y))) (zr 0 (by omega)).symm
      | i + 4, g =>
        have g2 : ggo (List.replicate 21 none) i = some v := g
        have g3 := ggo_mem g2
        have := List.eq_of_mem_replicate g3
        cases this
    have h8 : MGoal p l e room_1 s m #[Value.ref b] below meth c cells slots (lw_Z below #[Value.ref b] s) (D, cA, (fun _ => 0), s.heap.size) 25 0 (fun i => if i = 167 then b else 0) 19 (gMl j none) [] [] := by
      have hfN : fN 7 ≤ 20 := by decide
      refine ms_new (x := 14) CM z0K (Nat.le_refl 9) dcd_19 (by omega) (by decide) rfl (by decide) rfl (Nat.zero_le _) (by show cells + 1 ≤ room_1.cells; omega) (by show slots + fN 7 ≤ room_1.slots; omega) ?_
      refine ms_dup CM dcd_22 ?_
      refine ms_call (a := 0) (cj := 7) (M' := mMade) CM z0K (Nat.le_refl 9) hMR dcd_23 (by omega) rfl (by omega) (by decide) (by show cells + 1 + 121 ≤ room_1.cells; omega) (by show slots + fN 7 + 4760 ≤ room_1.slots; omega) (by decide) rfl (Nat.zero_le _) hmet ?_
      refine ms_astore_n (n := 122) CM dcd_26 (by decide) ?_ ?_
      · rfl
      · exact h9
    refine h8 (fun i => if i = 167 then b else 0) H locs ls (fun _ _ => rfl) (fun k q hq => (by cases hq)) ⟨fun i j p q hi => (by cases hi), fun k q hq => (by cases hq)⟩ hS ⟨hs1, hs2, fun i v g => ?_⟩
    match i, g with
    | 0, g => cases g; exact hs3
    | 1, g => cases g; exact hs4
    | 2, g => cases g; exact hs5
    | 3, g => cases g
    | i + 4, g =>
      rw [lgo_j] at g
      have g2 : ((List.replicate 21 (none : Option Value))[i]?).getD none = some v := g
      rw [List.getElem?_replicate] at g2
      by_cases q : i < 21
      · rw [if_pos q] at g2; cases g2
      · rw [if_neg q] at g2; cases g2
end STA
