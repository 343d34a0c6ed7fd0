/-! STRING CONSTANTS: length and charAt, by the JDK's own bytecode -/
def jLen : MethodName := ⟨"java/lang/String", "length", "()I"⟩
def jCod : MethodName := ⟨"java/lang/String", "coder", "()B"⟩
def jChr : MethodName := ⟨"java/lang/String", "charAt", "(I)C"⟩
def jLat : MethodName := ⟨"java/lang/String", "isLatin1", "()Z"⟩
def jLch : MethodName := ⟨"java/lang/StringLatin1", "charAt", "([BI)C"⟩
def jChk : MethodName := ⟨"java/lang/String", "checkIndex", "(II)V"⟩
def jPre : MethodName := ⟨"jdk/internal/util/Preconditions", "checkIndex", "(IILjava/util/function/BiFunction;)I"⟩
def jW : List Cond := [.code jLen prog_28_method_54_code 1 (some .int), .code jCod prog_28_method_152_code 1 (some .byte), .code jChr prog_28_method_56_code 2 (some .char), .code jLat prog_28_method_154_code 1 (some .boolean), .code jLch prog_30_method_2_code 2 (some .char), .code jChk prog_28_method_155_code 2 none, .code jPre prog_39_method_11_code 3 (some .int),
  .methodLink "java/lang/String" 335 jCod, .instanceMethod jCod, .selects "java/lang/String" jCod jCod, .initialized "java/lang/String", .fieldLink "java/lang/String" 38 "java/lang/String" "COMPACT_STRINGS" "Z", .fieldLink "java/lang/String" 9 "java/lang/String" "value" "[B", .fieldLink "java/lang/String" 15 "java/lang/String" "coder" "B",
  .methodLink "java/lang/String" 492 jLat, .instanceMethod jLat, .selects "java/lang/String" jLat jLat, .methodLink "java/lang/String" 495 jLch, .static jLch, .initialized "java/lang/StringLatin1", .methodLink "java/lang/StringLatin1" 9 jChk, .static jChk,
  .fieldLink "java/lang/String" 1053 "jdk/internal/util/Preconditions" "SIOOBE_FORMATTER" "Ljava/util/function/BiFunction;", .methodLink "java/lang/String" 1059 jPre, .static jPre, .initialized "jdk/internal/util/Preconditions", .instanceMethod jLen, .selects "java/lang/String" jLen jLen, .instanceMethod jChr, .selects "java/lang/String" jChr jChr]
theorem jW_in : ∀ w ∈ jW, w ∈ gtbl := by
  have key : jW.all (fun w => decide (w ∈ lw_tbl) && goodWord w) = true := by decide +kernel
  intro w hw
  have h1 := List.all_eq_true.mp key w hw
  rw [Bool.and_eq_true, decide_eq_true_eq] at h1
  exact gtbl_in h1.1 h1.2
section STRK
variable {p : Program} {l : Launch} {e : Env} {R : Room} {s : State} {m : MethodId} {args : Array Value} {below : List Frame} {meth : Method} {c : Code} {H : Heap} {locs : List Loc} {cells slots : Nat} {Q : State → Prop} {pc : Nat} {ls : Array Slot} {rest st0 : List Value} {a : Array Value}
theorem call_Si {post : Int32 → Prop} (hr : va_Run p l e R s m args below meth c H locs cells slots 0 0 (F0 m pc ls st0) rest (vp_Si post a) (fun _ => False)) (kk : ∀ r, post r → W p l e R s m args below meth c H locs cells slots Q (F0 m (pc + 3) ls (.int r :: rest))) : W p l e R s m args below meth c H locs cells slots Q (F0 m pc ls st0) := by
  intro T hT X
  obtain ⟨v, st₀, t, T', L, h0, X', hL, e1, e2, ⟨r, hv, hp, hh⟩, st⟩ := hr T hT X
  cases hv
  have hL0 : L = [] := by
    cases L with
    | nil => rfl
    | cons q L => exact (hL q List.mem_cons_self).elim
  subst hL0
  rw [List.append_nil] at X'
  obtain ⟨t2, a1, b1⟩ := kk r hp T' (by rw [e1, hh, h0]) X'
  exact ⟨t2, st t2 a1, b1⟩
theorem call_Sv {post : Unit → Prop} (hr : va_Run p l e R s m args below meth c H locs cells slots 0 0 (F0 m pc ls st0) rest (va_Sv post a) (fun _ => False)) (kk : W p l e R s m args below meth c H locs cells slots Q (F0 m (pc + 3) ls rest)) : W p l e R s m args below meth c H locs cells slots Q (F0 m pc ls st0) := by
  intro T hT X
  obtain ⟨v, st₀, t, T', L, h0, X', hL, e1, e2, ⟨hv, hp, hh⟩, st⟩ := hr T hT X
  cases hv
  have hL0 : L = [] := by
    cases L with
    | nil => rfl
    | cons q L => exact (hL q List.mem_cons_self).elim
  subst hL0
  rw [List.append_nil] at X'
  obtain ⟨t2, a1, b1⟩ := kk T' (by rw [e1, hh, h0]) X'
  exact ⟨t2, st t2 a1, b1⟩
end STRK
theorem STR.cal {z : PP} {U : State} {g : JFrame} {mk : MethodId} {a : Array Value} (h : STR z U) : STR z (U.calling g mk a) := by
  obtain ⟨⟨adV, h1⟩, h2, h3⟩ := h
  exact ⟨⟨adV, h1.moved (U := U.calling g mk a) (Vm.Alike.refl U.vm)⟩, h2.moved (U := U.calling g mk a) (Vm.Alike.refl U.vm), h3.moved (U := U.calling g mk a) (Vm.Alike.refl U.vm)⟩
theorem STR.go {z : PP} {s U : State} {locs : List Loc} (h : STR z s) (hW : s.WarmedH U.vm) (hS : va_S (A0 z) s.heap U.heap locs) : STR z U := by
  obtain ⟨⟨adV, i1⟩, i2, i3⟩ := h
  exact ⟨⟨adV, (i1.moved hW.alike).kept hS.2.1⟩, (i2.moved hW.alike).kept hS.2.1, (i3.moved hW.alike).kept hS.2.1⟩
def jRm (d : Nat) : Room := { frames := d, cells := 0, slots := 0, locals := 30 * d }
section STRM
variable (l : Launch) (z : PP)
set_option maxRecDepth 100000 in
theorem j_pre (i n : Int32) (q : Value) (h0 : ¬ i < 0) (h1 : i < n) (hq : q.category = 1) : Met l jPre (.code jPre prog_39_method_11_code 3 (some .int) :: gtbl) (jRm 1) (va_Pc [.int i, .int n, q] (fun _ => True)) (vp_Si (fun _ => True)) 0 0 (fun _ => False) := by
  refine Met.ofW (cc := prog_39_method_11_code) (maxL := 3) (ret := some .int) (by decide) rfl ?_
  intro p e s m args below meth c s₁ B hml hv
  obtain ⟨rfl, -⟩ := hv
  have hx := B.exec
  have hb := B.bytes
  have hl := lv_entry ([.int i, .int n, q]) (n := 3) (by show (lg_sl [.int i, .int n, q]).length ≤ 3; cases q <;> first | (simp [Value.category] at hq; done) | simp [lg_sl, Value.category])
  rw [lg_entry_eq]
  generalize (lg_sl ([.int i, .int n, q]) ++ List.replicate (3 - (lg_sl ([.int i, .int n, q])).length) Slot.unset).toArray = ls at hl ⊢
  have hl : lv_has ls 3 [(0, .int i), (1, .int n), (2, q)] := hl
  refine lv_iload_n hx hb (by decide +kernel : decode prog_39_method_11_code 0 = .ok (.iload_n 0, 1)) rfl (lv_at hl 0 rfl) ?_
  refine lv_if_lt (tgt := 9) hx hb (by decide +kernel : decode prog_39_method_11_code 1 = .ok (.ifCond .lt 8, 3)) (by decide) (fun q => absurd q h0) (fun _ => ?_)
  refine lv_iload_n hx hb (by decide +kernel : decode prog_39_method_11_code 4 = .ok (.iload_n 0, 1)) rfl (lv_at hl 0 rfl) ?_
  refine lv_iload_n hx hb (by decide +kernel : decode prog_39_method_11_code 5 = .ok (.iload_n 1, 1)) rfl (lv_at hl 1 rfl) ?_
  refine lv_icmp_lt (tgt := 16) hx hb (by decide +kernel : decode prog_39_method_11_code 6 = .ok (.if_icmp .lt 10, 3)) (by decide) (fun _ => ?_) (fun q => absurd h1 q)
  refine lv_iload_n hx hb (by decide +kernel : decode prog_39_method_11_code 16 = .ok (.iload_n 0, 1)) rfl (lv_at hl 0 rfl) ?_
  exact W.iret hx hb B.returns (fun t ht hW => ⟨i, rfl, trivial, ht⟩) (fun _ h => by cases h) (by decide +kernel : decode prog_39_method_11_code 17 = .ok (.ireturn, 1)) B.notSynchronized
set_option maxRecDepth 100000 in
theorem j_chk (i n : Int32) (h0 : ¬ i < 0) (h1 : i < n) : Met l jChk (.code jChk prog_28_method_155_code 2 none :: gtbl) (jRm 2) (va_Pc [.int i, .int n] (fun U => STR z U)) (va_Sv (fun _ => True)) 0 0 (fun _ => False) := by
  refine Met.ofW (cc := prog_28_method_155_code) (maxL := 2) (ret := none) (by decide) rfl ?_
  intro p e s m args below meth c s₁ B hml hv
  obtain ⟨rfl, hT⟩ := hv
  have hx := B.exec
  have hb := B.bytes
  have hts0 := atoms_spec B.pre
  have hts : ∀ w ∈ gtbl, w.before ([.int i, .int n] : List Value).toArray s = true := fun w hw => hts0 w (List.mem_cons_of_mem _ hw)
  have hown : s.vm.findClass "java/lang/String" = some m.cls := findClass_of_methodNamed B.named
  have hS : va_S (A0 z) s.heap s.heap [] := va_S.rf
  have hl := lv_entry ([.int i, .int n]) (n := 2) (by show (lg_sl [.int i, .int n]).length ≤ 2; simp [lg_sl, Value.category])
  rw [lg_entry_eq]
  generalize (lg_sl ([.int i, .int n]) ++ List.replicate (2 - (lg_sl ([.int i, .int n])).length) Slot.unset).toArray = ls at hl ⊢
  have hl : lv_has ls 2 [(0, .int i), (1, .int n)] := hl
  obtain ⟨h9, h8, h7⟩ := hT
  have go : ∀ q : Value, va_Z "jdk/internal/util/Preconditions" "SIOOBE_FORMATTER" "Ljava/util/function/BiFunction;" q (A0 z) s s.heap → q.category = 1 → W p l e (jRm 2) s m ([.int i, .int n] : List Value).toArray below meth c s.heap [] 0 0 (MQ below (va_Sv (fun _ => True)) ([.int i, .int n] : List Value).toArray s 0 0 (fun _ => False)) (F0 m 0 ls []) := by
    intro q hq hc
    refine lv_iload_n hx hb (by decide +kernel : decode prog_28_method_155_code 0 = .ok (.iload_n 0, 1)) rfl (lv_at hl 0 rfl) ?_
    refine lv_iload_n hx hb (by decide +kernel : decode prog_28_method_155_code 1 = .ok (.iload_n 1, 1)) rfl (lv_at hl 1 rfl) ?_
    refine va_gets (v := q) hx hb hq hS hown (hts _ (jW_in _ (List.mem_of_getElem? (i := 22) rfl))) (fun _ h => h) (by decide +kernel : decode prog_28_method_155_code 2 = .ok (.getstatic 1053, 3)) ?_
    refine call_Si (va_runS (As := [.int i, .int n, q]) (rest := []) ⟨hx, hb, hml, hown, hts⟩ (j_pre l i n q h0 h1 hc) ⟨callB_of 3 hts (goodIn_g (fun w hw => by
      rcases List.mem_cons.mp hw with rfl | hw
      · exact jW_in _ (List.mem_of_getElem? (i := 6) rfl)
      · exact hw)) rfl rfl rfl (hts _ (jW_in _ (List.mem_of_getElem? (i := 25) rfl))) (hts _ (jW_in _ (List.mem_of_getElem? (i := 23) rfl))) (by decide +kernel) ⟨Nat.le_of_ble_eq_true rfl, Nat.le_of_ble_eq_true rfl⟩, (hts _ (jW_in _ (List.mem_of_getElem? (i := 24) rfl)))⟩ ⟨fun a U g mk q => ⟨q.1, trivial⟩, fun U hU hW => ⟨rfl, trivial⟩⟩ rfl rfl hl.1 rfl (lv_room (Nat.le_of_ble_eq_true rfl)) (by decide +kernel : decode prog_28_method_155_code 5 = .ok (.invokestatic 1059, 3)) ⟨Nat.le_of_ble_eq_true rfl, Nat.le_of_ble_eq_true rfl⟩) (fun r _ => ?_)
    refine lv_pop hx hb (by decide +kernel : decode prog_28_method_155_code 8 = .ok (.pop, 1)) rfl ?_
    exact W.vret hx hb B.returns (fun t ht hW => ⟨rfl, trivial, ht⟩) (fun _ h => by cases h) (by decide +kernel : decode prog_28_method_155_code 9 = .ok (.return_, 1)) B.notSynchronized
  rcases h7 with h7 | ⟨t, h7⟩
  · exact go _ h7 rfl
  · exact go _ h7 rfl
set_option maxRecDepth 100000 in
theorem j_cod {j : Nat} (hj : j < 7) : Met l jCod (.code jCod prog_28_method_152_code 1 (some .byte) :: gtbl) (jRm 1) (va_Pc [.ref (z.2.2.1 (SB + j))] (fun U => STR z U)) (vp_Si (fun r => r = 0)) 0 0 (fun _ => False) := by
  refine Met.ofW (cc := prog_28_method_152_code) (maxL := 1) (ret := some .byte) (by decide) rfl ?_
  intro p e s m args below meth c s₁ B hml hv
  obtain ⟨rfl, hT⟩ := hv
  have hx := B.exec
  have hb := B.bytes
  have hts0 := atoms_spec B.pre
  have hts : ∀ w ∈ gtbl, w.before ([.ref (z.2.2.1 (SB + j))] : List Value).toArray s = true := fun w hw => hts0 w (List.mem_cons_of_mem _ hw)
  have hown : s.vm.findClass "java/lang/String" = some m.cls := findClass_of_methodNamed B.named
  have hS : va_S (A0 z) s.heap s.heap [] := va_S.rf
  have hl := lv_entry ([.ref (z.2.2.1 (SB + j))]) (n := 1) (by show (lg_sl [.ref (z.2.2.1 (SB + j))]).length ≤ 1; simp [lg_sl, Value.category])
  rw [lg_entry_eq]
  generalize (lg_sl ([.ref (z.2.2.1 (SB + j))]) ++ List.replicate (1 - (lg_sl ([.ref (z.2.2.1 (SB + j))])).length) Slot.unset).toArray = ls at hl ⊢
  have hl : lv_has ls 1 [(0, .ref (z.2.2.1 (SB + j)))] := hl
  obtain ⟨⟨adV, h9⟩, h8, h7⟩ := hT
  refine va_gets (v := .int 1) hx hb h8 hS hown (hts _ (jW_in _ (List.mem_of_getElem? (i := 11) rfl))) (fun _ h => h) (by decide +kernel : decode prog_28_method_152_code 0 = .ok (.getstatic 38, 3)) ?_
  refine lv_if_eq (tgt := 13) hx hb (by decide +kernel : decode prog_28_method_152_code 3 = .ok (.ifCond .eq 10, 3)) (by decide) (fun q => absurd q (by decide)) (fun _ => ?_)
  refine lv_aload_n hx hb (by decide +kernel : decode prog_28_method_152_code 6 = .ok (.aload_n 0, 1)) rfl (lv_at hl 0 rfl) ?_
  refine vk_getf hx hb (h9.1 j hj).2.1 hS hown (hts _ (jW_in _ (List.mem_of_getElem? (i := 13) rfl))) (fun _ h => h) (by decide +kernel : decode prog_28_method_152_code 7 = .ok (.getfield 15, 3)) ?_
  refine lv_goto (tgt := 14) hx hb (by decide +kernel : decode prog_28_method_152_code 10 = .ok (.goto 4, 3)) (by decide) ?_
  exact W.zret (ty := .byte) hx hb B.returns rfl (fun t ht hW => ⟨0, rfl, rfl, ht⟩) (fun _ h => by cases h) (by decide +kernel : decode prog_28_method_152_code 14 = .ok (.ireturn, 1)) B.notSynchronized
set_option maxRecDepth 100000 in
theorem j_lat {j : Nat} (hj : j < 7) : Met l jLat (.code jLat prog_28_method_154_code 1 (some .boolean) :: gtbl) (jRm 1) (va_Pc [.ref (z.2.2.1 (SB + j))] (fun U => STR z U)) (vp_Si (fun r => r = 1)) 0 0 (fun _ => False) := by
  refine Met.ofW (cc := prog_28_method_154_code) (maxL := 1) (ret := some .boolean) (by decide) rfl ?_
  intro p e s m args below meth c s₁ B hml hv
  obtain ⟨rfl, hT⟩ := hv
  have hx := B.exec
  have hb := B.bytes
  have hts0 := atoms_spec B.pre
  have hts : ∀ w ∈ gtbl, w.before ([.ref (z.2.2.1 (SB + j))] : List Value).toArray s = true := fun w hw => hts0 w (List.mem_cons_of_mem _ hw)
  have hown : s.vm.findClass "java/lang/String" = some m.cls := findClass_of_methodNamed B.named
  have hS : va_S (A0 z) s.heap s.heap [] := va_S.rf
  have hl := lv_entry ([.ref (z.2.2.1 (SB + j))]) (n := 1) (by show (lg_sl [.ref (z.2.2.1 (SB + j))]).length ≤ 1; simp [lg_sl, Value.category])
  rw [lg_entry_eq]
  generalize (lg_sl ([.ref (z.2.2.1 (SB + j))]) ++ List.replicate (1 - (lg_sl ([.ref (z.2.2.1 (SB + j))])).length) Slot.unset).toArray = ls at hl ⊢
  have hl : lv_has ls 1 [(0, .ref (z.2.2.1 (SB + j)))] := hl
  obtain ⟨⟨adV, h9⟩, h8, h7⟩ := hT
  refine va_gets (v := .int 1) hx hb h8 hS hown (hts _ (jW_in _ (List.mem_of_getElem? (i := 11) rfl))) (fun _ h => h) (by decide +kernel : decode prog_28_method_154_code 0 = .ok (.getstatic 38, 3)) ?_
  refine lv_if_eq (tgt := 17) hx hb (by decide +kernel : decode prog_28_method_154_code 3 = .ok (.ifCond .eq 14, 3)) (by decide) (fun q => absurd q (by decide)) (fun _ => ?_)
  refine lv_aload_n hx hb (by decide +kernel : decode prog_28_method_154_code 6 = .ok (.aload_n 0, 1)) rfl (lv_at hl 0 rfl) ?_
  refine vk_getf hx hb (h9.1 j hj).2.1 hS hown (hts _ (jW_in _ (List.mem_of_getElem? (i := 13) rfl))) (fun _ h => h) (by decide +kernel : decode prog_28_method_154_code 7 = .ok (.getfield 15, 3)) ?_
  refine lv_if_ne (tgt := 17) hx hb (by decide +kernel : decode prog_28_method_154_code 10 = .ok (.ifCond .ne 7, 3)) (by decide) (fun q => absurd rfl q) (fun _ => ?_)
  refine lv_iconst (v := 1) hx hb (by decide +kernel : decode prog_28_method_154_code 13 = .ok (.iconst 1, 1)) (by decide) ?_
  refine lv_goto (tgt := 18) hx hb (by decide +kernel : decode prog_28_method_154_code 14 = .ok (.goto 4, 3)) (by decide) ?_
  exact W.zret (ty := .boolean) hx hb B.returns rfl (fun t ht hW => ⟨1, rfl, rfl, ht⟩) (fun _ h => by cases h) (by decide +kernel : decode prog_28_method_154_code 18 = .ok (.ireturn, 1)) B.notSynchronized
set_option maxRecDepth 100000 in
theorem j_len {j : Nat} (hj : j < 7) : Met l jLen (.code jLen prog_28_method_54_code 1 (some .int) :: gtbl) (jRm 2) (va_Pc [.ref (z.2.2.1 (SB + j))] (fun U => STR z U)) (vp_Si (fun r => r = Int32.ofNat (slenF j))) 0 0 (fun _ => False) := by
  refine Met.ofW (cc := prog_28_method_54_code) (maxL := 1) (ret := some .int) (by decide) rfl ?_
  intro p e s m args below meth c s₁ B hml hv
  obtain ⟨rfl, hT⟩ := hv
  have hx := B.exec
  have hb := B.bytes
  have hts0 := atoms_spec B.pre
  have hts : ∀ w ∈ gtbl, w.before ([.ref (z.2.2.1 (SB + j))] : List Value).toArray s = true := fun w hw => hts0 w (List.mem_cons_of_mem _ hw)
  have hown : s.vm.findClass "java/lang/String" = some m.cls := findClass_of_methodNamed B.named
  have hS : va_S (A0 z) s.heap s.heap [] := va_S.rf
  have hl := lv_entry ([.ref (z.2.2.1 (SB + j))]) (n := 1) (by show (lg_sl [.ref (z.2.2.1 (SB + j))]).length ≤ 1; simp [lg_sl, Value.category])
  rw [lg_entry_eq]
  generalize (lg_sl ([.ref (z.2.2.1 (SB + j))]) ++ List.replicate (1 - (lg_sl ([.ref (z.2.2.1 (SB + j))])).length) Slot.unset).toArray = ls at hl ⊢
  have hl : lv_has ls 1 [(0, .ref (z.2.2.1 (SB + j)))] := hl
  have hT0 := hT
  obtain ⟨⟨adV, h9⟩, h8, h7⟩ := hT
  refine lv_aload_n hx hb (by decide +kernel : decode prog_28_method_54_code 0 = .ok (.aload_n 0, 1)) rfl (lv_at hl 0 rfl) ?_
  refine vk_getf hx hb (h9.1 j hj).2.2.1 hS hown (hts _ (jW_in _ (List.mem_of_getElem? (i := 12) rfl))) (fun _ h => h) (by decide +kernel : decode prog_28_method_54_code 1 = .ok (.getfield 9, 3)) ?_
  refine va_tlen (v := Int32.ofNat (sLens.getD j 0)) hx hb (h9.1 j hj).2.2.2 hS rfl (by decide +kernel : decode prog_28_method_54_code 4 = .ok (.arraylength, 1)) ?_
  refine lv_aload_n hx hb (by decide +kernel : decode prog_28_method_54_code 5 = .ok (.aload_n 0, 1)) rfl (lv_at hl 0 rfl) ?_
  refine call_Si (va_runV (C := "java/lang/String") (As := []) (rest := [.int (Int32.ofNat (sLens.getD j 0))]) ⟨hx, hb, hml, hown, hts⟩ (j_cod l z hj) (cwV 0 hts (goodIn_g (fun w hw => by
      rcases List.mem_append.mp hw with hw | hw
      · simp only [List.mem_cons, List.not_mem_nil, or_false] at hw
        rcases hw with rfl | rfl | rfl | rfl
        · exact jW_in _ (List.mem_of_getElem? (i := 7) rfl)
        · exact jW_in _ (List.mem_of_getElem? (i := 8) rfl)
        · exact jW_in _ (List.mem_of_getElem? (i := 9) rfl)
        · exact jW_in _ (List.mem_of_getElem? (i := 10) rfl)
      · rcases List.mem_cons.mp hw with rfl | hw
        · exact jW_in _ (List.mem_of_getElem? (i := 1) rfl)
        · exact hw)) rfl rfl rfl (by decide +kernel) ⟨Nat.le_of_ble_eq_true rfl, Nat.le_of_ble_eq_true rfl⟩) ⟨fun a U g mk q => ⟨q.1, STR.cal q.2⟩, vk_recv h9 hj hS, fun U hU hW => ⟨rfl, STR.go (locs := []) hT0 hW (by rw [hU]; exact hS)⟩⟩ rfl rfl hl.1 rfl (lv_room (Nat.le_of_ble_eq_true rfl)) (by decide +kernel : decode prog_28_method_54_code 6 = .ok (.invokevirtual 335, 3)) ⟨Nat.le_of_ble_eq_true rfl, Nat.le_of_ble_eq_true rfl⟩) (fun r hr => ?_)
  subst hr
  refine lv_ishr hx hb (by decide +kernel : decode prog_28_method_54_code 9 = .ok (.ishr, 1)) ?_
  refine W.iret hx hb B.returns (fun t ht hW => ⟨_, rfl, ?_, ht⟩) (fun _ h => by cases h) (by decide +kernel : decode prog_28_method_54_code 10 = .ok (.ireturn, 1)) B.notSynchronized
  have key : ∀ j, j < 7 → Int32.ofNat (sLens.getD j 0) >>> ((0 : Int32) &&& 31) = Int32.ofNat (slenF j) := by decide +kernel
  exact key j hj
set_option maxRecDepth 100000 in
theorem j_lch {j i : Nat} {adV : Nat → Nat} (hj : j < 7) (hi : i < sLens.getD j 0) : Met l jLch (.code jLch prog_30_method_2_code 2 (some .char) :: gtbl) (jRm 3) (va_Pc [.ref (adV j), .int (nI i)] (fun U => STR z U ∧ va_T .byte (adV j) (sLens.getD j 0) (fun k => .int ((sByts.getD j []).getD k 0)) (A0 z) U U.heap)) (vp_Si (fun r => r = schF j i)) 0 0 (fun _ => False) := by
  have hlen : ∀ j, j < 7 → sLens.getD j 0 < 8 := by decide +kernel
  have hl8 := hlen j hj
  refine Met.ofW (cc := prog_30_method_2_code) (maxL := 2) (ret := some .char) (by decide) rfl ?_
  intro p e s m args below meth c s₁ B hml hv
  obtain ⟨rfl, hT⟩ := hv
  have hx := B.exec
  have hb := B.bytes
  have hts0 := atoms_spec B.pre
  have hts : ∀ w ∈ gtbl, w.before ([.ref (adV j), .int (nI i)] : List Value).toArray s = true := fun w hw => hts0 w (List.mem_cons_of_mem _ hw)
  have hown : s.vm.findClass "java/lang/StringLatin1" = some m.cls := findClass_of_methodNamed B.named
  have hS : va_S (A0 z) s.heap s.heap [] := va_S.rf
  have hl := lv_entry ([.ref (adV j), .int (nI i)]) (n := 2) (by show (lg_sl [.ref (adV j), .int (nI i)]).length ≤ 2; simp [lg_sl, Value.category])
  rw [lg_entry_eq]
  generalize (lg_sl ([.ref (adV j), .int (nI i)]) ++ List.replicate (2 - (lg_sl ([.ref (adV j), .int (nI i)])).length) Slot.unset).toArray = ls at hl ⊢
  have hl : lv_has ls 2 [(0, .ref (adV j)), (1, .int (nI i))] := hl
  obtain ⟨hT, hA⟩ := hT
  refine lv_iload_n hx hb (by decide +kernel : decode prog_30_method_2_code 0 = .ok (.iload_n 1, 1)) rfl (lv_at hl 1 rfl) ?_
  refine lv_aload_n hx hb (by decide +kernel : decode prog_30_method_2_code 1 = .ok (.aload_n 0, 1)) rfl (lv_at hl 0 rfl) ?_
  refine va_tlen (v := nI (sLens.getD j 0)) hx hb hA hS rfl (by decide +kernel : decode prog_30_method_2_code 2 = .ok (.arraylength, 1)) ?_
  refine call_Sv (va_runS (As := [.int (nI i), .int (nI (sLens.getD j 0))]) (rest := []) ⟨hx, hb, hml, hown, hts⟩ (j_chk l z (nI i) (nI (sLens.getD j 0)) (nI_pos (by omega)) (nI_lt hi (by omega))) ⟨callB_of 2 hts (goodIn_g (fun w hw => by
      rcases List.mem_cons.mp hw with rfl | hw
      · exact jW_in _ (List.mem_of_getElem? (i := 5) rfl)
      · exact hw)) rfl rfl rfl (hts _ (jW_in _ (List.mem_of_getElem? (i := 10) rfl))) (hts _ (jW_in _ (List.mem_of_getElem? (i := 20) rfl))) (by decide +kernel) ⟨Nat.le_of_ble_eq_true rfl, Nat.le_of_ble_eq_true rfl⟩, (hts _ (jW_in _ (List.mem_of_getElem? (i := 21) rfl)))⟩ ⟨fun a U g mk q => ⟨q.1, STR.cal q.2⟩, fun U hU hW => ⟨rfl, STR.go (locs := []) hT hW (by rw [hU]; exact hS)⟩⟩ rfl rfl hl.1 rfl (lv_room (Nat.le_of_ble_eq_true rfl)) (by decide +kernel : decode prog_30_method_2_code 3 = .ok (.invokestatic 9, 3)) ⟨Nat.le_of_ble_eq_true rfl, Nat.le_of_ble_eq_true rfl⟩) ?_
  refine lv_aload_n hx hb (by decide +kernel : decode prog_30_method_2_code 6 = .ok (.aload_n 0, 1)) rfl (lv_at hl 0 rfl) ?_
  refine lv_iload_n hx hb (by decide +kernel : decode prog_30_method_2_code 7 = .ok (.iload_n 1, 1)) rfl (lv_at hl 1 rfl) ?_
  refine va_tb (v := .int ((sByts.getD j []).getD i 0)) hx hb hA hS (vp_in_nI hi (by omega)) (by rw [nI_clamp (by omega)]) (by decide +kernel : decode prog_30_method_2_code 8 = .ok (.baload, 1)) ?_
  refine lv_sipush (v := 255) hx hb (by decide +kernel : decode prog_30_method_2_code 9 = .ok (.sipush 255, 3)) (by decide) ?_
  refine lv_iand hx hb (by decide +kernel : decode prog_30_method_2_code 12 = .ok (.iand, 1)) ?_
  refine lv_i2c hx hb (by decide +kernel : decode prog_30_method_2_code 13 = .ok (.i2c, 1)) rfl ?_
  have key : ∀ j, j < 7 → ∀ i, i < 8 → ((((sByts.getD j []).getD i 0 &&& 255) : Int32).toUInt32 % 65536).toInt32 = schF j i ∧ narrow .char (.int (schF j i)) = .int (schF j i) := by decide +kernel
  obtain ⟨k1, k2⟩ := key j hj i (by omega)
  rw [k1]
  exact W.zret (ty := .char) hx hb B.returns k2 (fun t ht hW => ⟨_, rfl, rfl, ht⟩) (fun _ h => by cases h) (by decide +kernel : decode prog_30_method_2_code 14 = .ok (.ireturn, 1)) B.notSynchronized
set_option maxRecDepth 100000 in
theorem j_chr {j i : Nat} (hj : j < 7) (hi : i < sLens.getD j 0) : Met l jChr (.code jChr prog_28_method_56_code 2 (some .char) :: gtbl) (jRm 4) (va_Pc [.ref (z.2.2.1 (SB + j)), .int (nI i)] (fun U => STR z U)) (vp_Si (fun r => r = schF j i)) 0 0 (fun _ => False) := by
  have hlen : ∀ j, j < 7 → sLens.getD j 0 < 8 := by decide +kernel
  have hl8 := hlen j hj
  refine Met.ofW (cc := prog_28_method_56_code) (maxL := 2) (ret := some .char) (by decide) rfl ?_
  intro p e s m args below meth c s₁ B hml hv
  obtain ⟨rfl, hT⟩ := hv
  have hx := B.exec
  have hb := B.bytes
  have hts0 := atoms_spec B.pre
  have hts : ∀ w ∈ gtbl, w.before ([.ref (z.2.2.1 (SB + j)), .int (nI i)] : List Value).toArray s = true := fun w hw => hts0 w (List.mem_cons_of_mem _ hw)
  have hown : s.vm.findClass "java/lang/String" = some m.cls := findClass_of_methodNamed B.named
  have hS : va_S (A0 z) s.heap s.heap [] := va_S.rf
  have hl := lv_entry ([.ref (z.2.2.1 (SB + j)), .int (nI i)]) (n := 2) (by show (lg_sl [.ref (z.2.2.1 (SB + j)), .int (nI i)]).length ≤ 2; simp [lg_sl, Value.category])
  rw [lg_entry_eq]
  generalize (lg_sl ([.ref (z.2.2.1 (SB + j)), .int (nI i)]) ++ List.replicate (2 - (lg_sl ([.ref (z.2.2.1 (SB + j)), .int (nI i)])).length) Slot.unset).toArray = ls at hl ⊢
  have hl : lv_has ls 2 [(0, .ref (z.2.2.1 (SB + j))), (1, .int (nI i))] := hl
  have hT0 := hT
  obtain ⟨⟨adV, h9⟩, h8, h7⟩ := hT
  refine lv_aload_n hx hb (by decide +kernel : decode prog_28_method_56_code 0 = .ok (.aload_n 0, 1)) rfl (lv_at hl 0 rfl) ?_
  refine call_Si (va_runV (C := "java/lang/String") (As := []) (rest := []) ⟨hx, hb, hml, hown, hts⟩ (j_lat l z hj) (cwV 0 hts (goodIn_g (fun w hw => by
      rcases List.mem_append.mp hw with hw | hw
      · simp only [List.mem_cons, List.not_mem_nil, or_false] at hw
        rcases hw with rfl | rfl | rfl | rfl
        · exact jW_in _ (List.mem_of_getElem? (i := 14) rfl)
        · exact jW_in _ (List.mem_of_getElem? (i := 15) rfl)
        · exact jW_in _ (List.mem_of_getElem? (i := 16) rfl)
        · exact jW_in _ (List.mem_of_getElem? (i := 10) rfl)
      · rcases List.mem_cons.mp hw with rfl | hw
        · exact jW_in _ (List.mem_of_getElem? (i := 3) rfl)
        · exact hw)) rfl rfl rfl (by decide +kernel) ⟨Nat.le_of_ble_eq_true rfl, Nat.le_of_ble_eq_true rfl⟩) ⟨fun a U g mk q => ⟨q.1, STR.cal q.2⟩, vk_recv h9 hj hS, fun U hU hW => ⟨rfl, STR.go (locs := []) hT0 hW (by rw [hU]; exact hS)⟩⟩ rfl rfl hl.1 rfl (lv_room (Nat.le_of_ble_eq_true rfl)) (by decide +kernel : decode prog_28_method_56_code 1 = .ok (.invokevirtual 492, 3)) ⟨Nat.le_of_ble_eq_true rfl, Nat.le_of_ble_eq_true rfl⟩) (fun r hr => ?_)
  subst hr
  refine lv_if_eq (tgt := 16) hx hb (by decide +kernel : decode prog_28_method_56_code 4 = .ok (.ifCond .eq 12, 3)) (by decide) (fun q => absurd q (by decide)) (fun _ => ?_)
  refine lv_aload_n hx hb (by decide +kernel : decode prog_28_method_56_code 7 = .ok (.aload_n 0, 1)) rfl (lv_at hl 0 rfl) ?_
  refine vk_getf hx hb (h9.1 j hj).2.2.1 hS hown (hts _ (jW_in _ (List.mem_of_getElem? (i := 12) rfl))) (fun _ h => h) (by decide +kernel : decode prog_28_method_56_code 8 = .ok (.getfield 9, 3)) ?_
  refine lv_iload_n hx hb (by decide +kernel : decode prog_28_method_56_code 11 = .ok (.iload_n 1, 1)) rfl (lv_at hl 1 rfl) ?_
  refine call_Si (va_runS (As := [.ref (adV j), .int (nI i)]) (rest := []) ⟨hx, hb, hml, hown, hts⟩ (j_lch l z (adV := adV) hj hi) ⟨callB_of 2 hts (goodIn_g (fun w hw => by
      rcases List.mem_cons.mp hw with rfl | hw
      · exact jW_in _ (List.mem_of_getElem? (i := 4) rfl)
      · exact hw)) rfl rfl rfl (hts _ (jW_in _ (List.mem_of_getElem? (i := 19) rfl))) (hts _ (jW_in _ (List.mem_of_getElem? (i := 17) rfl))) (by decide +kernel) ⟨Nat.le_of_ble_eq_true rfl, Nat.le_of_ble_eq_true rfl⟩, (hts _ (jW_in _ (List.mem_of_getElem? (i := 18) rfl)))⟩ ⟨fun a U g mk q => ⟨q.1, STR.cal q.2.1, va_T.moved (U := U.calling g mk a) (Vm.Alike.refl U.vm) q.2.2⟩, fun U hU hW => ⟨rfl, STR.go (locs := []) hT0 hW (by rw [hU]; exact hS), by rw [hU]; exact va_T.moved hW.alike (h9.1 j hj).2.2.2⟩⟩ rfl rfl hl.1 rfl (lv_room (Nat.le_of_ble_eq_true rfl)) (by decide +kernel : decode prog_28_method_56_code 12 = .ok (.invokestatic 495, 3)) ⟨Nat.le_of_ble_eq_true rfl, Nat.le_of_ble_eq_true rfl⟩) (fun r hr => ?_)
  subst hr
  have key : ∀ j, j < 7 → ∀ i, i < 8 → narrow .char (.int (schF j i)) = .int (schF j i) := by decide +kernel
  exact W.zret (ty := .char) hx hb B.returns (key j hj i (by omega)) (fun t ht hW => ⟨_, rfl, rfl, ht⟩) (fun _ h => by cases h) (by decide +kernel : decode prog_28_method_56_code 15 = .ok (.ireturn, 1)) B.notSynchronized
end STRM

def chkJ (q : Nat) : Bool := (!(Nat.beq (nres q) 110) || decide (Cond.methodLink (ownN (q / 1000)) (q % 1000) jLen ∈ lw_tbl)) && (!(Nat.beq (nres q) 111) || decide (Cond.methodLink (ownN (q / 1000)) (q % 1000) jChr ∈ lw_tbl))
theorem chkJ_all : (List.range 10000).all chkJ = true := by decide +kernel
theorem jq_len {q o x : Nat} (h : nres q = 110) (h1 : q / 1000 = o) (h2 : q % 1000 = x) : Cond.methodLink (ownN o) x jLen ∈ gtbl := by
  have hq : q < 10000 := by
    unfold nres at h
    exact bif_lt h (fun e => by cases e)
  have h3 := List.all_eq_true.mp chkJ_all q (List.mem_range.mpr hq)
  unfold chkJ at h3
  rw [h, h1, h2] at h3
  have h4 := (and2 h3).1
  exact gtbl_in (of_decide_eq_true h4) rfl
theorem jq_chr {q o x : Nat} (h : nres q = 111) (h1 : q / 1000 = o) (h2 : q % 1000 = x) : Cond.methodLink (ownN o) x jChr ∈ gtbl := by
  have hq : q < 10000 := by
    unfold nres at h
    exact bif_lt h (fun e => by cases e)
  have h3 := List.all_eq_true.mp chkJ_all q (List.mem_range.mpr hq)
  unfold chkJ at h3
  rw [h, h1, h2] at h3
  have h4 := (and2 h3).2
  exact gtbl_in (of_decide_eq_true h4) rfl
theorem vp_in_ex {i : Int32} {n : Nat} (h : vp_in i n) (hn : n < 2 ^ 31) : ∃ k : Nat, i = nI k ∧ k < n := by
  obtain ⟨h0, h1⟩ := vp_in_iff.mp h
  refine ⟨i.toInt.toNat, ?_, by omega⟩
  apply Int32.toInt_inj.mp
  rw [nI_toInt (by omega)]
  omega
section STRR
variable {p : Program} {l : Launch} {e : Env} {R : Room} {s : State} {m : MethodId} {args : Array Value} {below : List Frame} {meth : Method} {c : Code} {z : PP} {k L : Nat} {xs : Nat → Int32}
set_option maxRecDepth 100000 in
theorem str_rule (C : CX k p s m args c) (w0 : WT z L xs s) (hR : 10 ≤ R.frames ∧ 200 ≤ R.locals) : StrRule p l e R s m args below meth c z k := by
  obtain ⟨hx, hb, hml, hown, hts⟩ := C
  have hT0 : STR z s := w0.2.2.2.2.2.2.2
  have hT := hT0
  obtain ⟨⟨adV, h9⟩, h8, h7⟩ := hT
  constructor
  · intro H locs ls cells slots Q pc x0 j rest hS hsz hrest hc hs hd hn hx0 hj kk
    have h6 := jq_len hn (o := clsOf k) (x := x0) (by omega) (by omega)
    refine call_Si (va_runV (C := "java/lang/String") (As := []) (rest := rest) ⟨hx, hb, rfl, hown, hts⟩ (j_len l z hj) (cwV 0 hts (goodIn_g (fun w hw => by
      rcases List.mem_append.mp hw with hw | hw
      · simp only [List.mem_cons, List.not_mem_nil, or_false] at hw
        rcases hw with rfl | rfl | rfl | rfl
        · exact h6
        · exact jW_in _ (List.mem_of_getElem? (i := 26) rfl)
        · exact jW_in _ (List.mem_of_getElem? (i := 27) rfl)
        · exact jW_in _ (List.mem_of_getElem? (i := 10) rfl)
      · rcases List.mem_cons.mp hw with rfl | hw
        · exact jW_in _ (List.mem_of_getElem? (i := 0) rfl)
        · exact hw)) rfl rfl rfl (by decide +kernel) ⟨by show 2 + 1 ≤ _; omega, by show 8 + (1 + 11) + 60 ≤ _; omega⟩) ⟨fun a U g mk q => ⟨q.1, STR.cal q.2⟩, vk_recv h9 hj hS, fun U hU hW => ⟨rfl, STR.go hT0 hW (by rw [hU]; exact hS)⟩⟩ rfl rfl hsz rfl (lv_room hrest) hd ⟨hc, hs⟩) (fun r hr => ?_)
    subst hr
    exact kk
  · intro H locs ls cells slots Q pc x0 j i rest hS hsz hrest hc hs hd hn hx0 hj hi kk
    have h6 := jq_chr hn (o := clsOf k) (x := x0) (by omega) (by omega)
    have hlen : ∀ j, j < 7 → sLens.getD j 0 = slenF j := by decide +kernel
    obtain ⟨n, rfl, hn2⟩ : ∃ n : Nat, i = nI n ∧ n < slenF j := by
      have hl8 : ∀ j, j < 7 → slenF j < 8 := by decide +kernel
      have h8j := hl8 j hj
      exact vp_in_ex hi (by omega)
    have kk2 : W p l e R s m args below meth c H locs cells slots Q (F0 m (pc + 3) ls (.int (schF j n) :: rest)) := by
      have hl8 : ∀ j, j < 7 → slenF j < 8 := by decide +kernel
      have := hl8 j hj
      rw [nI_clamp (by omega)] at kk
      exact kk
    refine call_Si (va_runV (C := "java/lang/String") (As := [.int (nI n)]) (rest := rest) ⟨hx, hb, rfl, hown, hts⟩ (j_chr l z hj (i := n) (by rw [hlen j hj]; exact hn2)) (cwV 1 hts (goodIn_g (fun w hw => by
      rcases List.mem_append.mp hw with hw | hw
      · simp only [List.mem_cons, List.not_mem_nil, or_false] at hw
        rcases hw with rfl | rfl | rfl | rfl
        · exact h6
        · exact jW_in _ (List.mem_of_getElem? (i := 28) rfl)
        · exact jW_in _ (List.mem_of_getElem? (i := 29) rfl)
        · exact jW_in _ (List.mem_of_getElem? (i := 10) rfl)
      · rcases List.mem_cons.mp hw with rfl | hw
        · exact jW_in _ (List.mem_of_getElem? (i := 2) rfl)
        · exact hw)) rfl rfl rfl (by decide +kernel) ⟨by show 4 + 1 ≤ _; omega, by show 8 + (2 + 11) + 120 ≤ _; omega⟩) ⟨fun a U g mk q => ⟨q.1, STR.cal q.2⟩, vk_recv h9 hj hS, fun U hU hW => ⟨rfl, STR.go hT0 hW (by rw [hU]; exact hS)⟩⟩ rfl rfl hsz rfl (lv_room hrest) hd ⟨hc, hs⟩) (fun r hr => ?_)
    subst hr
    exact kk2
theorem sound (hst : l.stackTraces = false) (hw : WF z) (hL : L ≤ 3072) : ∀ (d : Nat) (k : Nat) (as : List Value) (h : PH) (o : PO) (h' : PH), Ex d k as h o h' → k < 119 → Con l z L xs d k as h o h' :=
  sound_open hst hw hL (fun _ _ _ _ _ _ _ _ _ _ C w0 h1 h2 => str_rule C w0 ⟨h1, h2⟩)
end STRR
