/-! A BODY THAT THE PURE MACHINE COMES THROUGH, the machine comes through -/
section WLK
variable {p : Program} {l : Launch} {e : Env} {R : Room} {s : State} {m : MethodId} {args : Array Value} {below : List Frame} {meth : Method} {c : Code} {Q : State → Prop} {cells slots : Nat}
variable {z : PP} {k L : Nat} {xs : Nat → Int32} {pc : Nat} {lv lv' : PL} {st st' : List Value} {h h' : PH} {pc' : Nat} {e0 : PE}
theorem step_ok (C : CX k p s m args c) (w0 : WS z L xs s) (hw : WF z) (hR : 10 ≤ R.frames ∧ 200 ≤ R.locals ∧ cells ≤ R.cells ∧ slots ≤ R.slots) (hL : L ≤ 3072) (HS : StrRule p l e R s m args below meth c z k)
    (hstr : ∀ i j, i < 1000 → sres (1000 * clsOf k + i) = some j → j < 7 → vk_R (ownN (clsOf k)) i (sTxt j) (z.2.2.1 (SB + j)) s) (hm : (miOf k).1 pc = some e0) (hs : pstep layF slenF schF e0 lv st h = some (pc', lv', st', h'))
    (kk : StepGoal p l e R s m args below meth c cells slots Q z k L xs pc' lv' st' h') : StepGoal p l e R s m args below meth c cells slots Q z k L xs pc lv st h := by
  obtain ⟨i, nx, a, b, t, v, w⟩ := e0
  cases i with
  | iadd => exact st_iadd C w0 hw hR hm hs kk
  | isub => exact st_isub C w0 hw hR hm hs kk
  | imul => exact st_imul C w0 hw hR hm hs kk
  | iand => exact st_iand C w0 hw hR hm hs kk
  | ior => exact st_ior C w0 hw hR hm hs kk
  | ixor => exact st_ixor C w0 hw hR hm hs kk
  | ishl => exact st_ishl C w0 hw hR hm hs kk
  | ishr => exact st_ishr C w0 hw hR hm hs kk
  | iushr => exact st_iushr C w0 hw hR hm hs kk
  | idiv => exact st_idiv C w0 hw hR hm hs kk
  | irem => exact st_irem C w0 hw hR hm hs kk
  | ldiv => exact st_ldiv C w0 hw hR hm hs kk
  | ineg => exact st_ineg C w0 hw hR hm hs kk
  | ladd => exact st_ladd C w0 hw hR hm hs kk
  | lsub => exact st_lsub C w0 hw hR hm hs kk
  | lmul => exact st_lmul C w0 hw hR hm hs kk
  | lcmp => exact st_lcmp C w0 hw hR hm hs kk
  | i2l => exact st_i2l C w0 hw hR hm hs kk
  | l2i => exact st_l2i C w0 hw hR hm hs kk
  | i2b => exact st_i2b C w0 hw hR hm hs kk
  | dup => exact st_dup C w0 hw hR hm hs kk
  | dup2 => exact st_dup2 C w0 hw hR hm hs kk
  | pop => exact st_pop C w0 hw hR hm hs kk
  | goto _ => exact st_goto C w0 hw hR hm hs kk
  | ifnull _ => exact st_ifnull C w0 hw hR hm hs kk
  | ifCond cnd _ =>
    cases cnd with
    | eq => exact st_if_eq C w0 hw hR hm hs kk
    | ne => exact st_if_ne C w0 hw hR hm hs kk
    | lt => exact st_if_lt C w0 hw hR hm hs kk
    | ge => exact st_if_ge C w0 hw hR hm hs kk
    | gt => exact st_if_gt C w0 hw hR hm hs kk
    | le => exact st_if_le C w0 hw hR hm hs kk
  | if_icmp cnd _ =>
    cases cnd with
    | eq => exact st_icmp_eq C w0 hw hR hm hs kk
    | ne => exact st_icmp_ne C w0 hw hR hm hs kk
    | lt => exact st_icmp_lt C w0 hw hR hm hs kk
    | ge => exact st_icmp_ge C w0 hw hR hm hs kk
    | gt => exact st_icmp_gt C w0 hw hR hm hs kk
    | le => exact st_icmp_le C w0 hw hR hm hs kk
  | iconst _ => exact st_iconst C w0 hw hR hm hs kk
  | bipush _ => exact st_bipush C w0 hw hR hm hs kk
  | sipush _ => exact st_sipush C w0 hw hR hm hs kk
  | lconst _ => exact st_lconst C w0 hw hR hm hs kk
  | iload_n _ => exact st_iload_n C w0 hw hR hm hs kk
  | aload_n _ => exact st_aload_n C w0 hw hR hm hs kk
  | lload_n _ => exact st_lload_n C w0 hw hR hm hs kk
  | iload _ => exact st_iload C w0 hw hR hm hs kk
  | aload _ => exact st_aload C w0 hw hR hm hs kk
  | lload _ => exact st_lload C w0 hw hR hm hs kk
  | istore_n _ => exact st_istore_n C w0 hw hR hm hs kk
  | astore_n _ => exact st_astore_n C w0 hw hR hm hs kk
  | lstore_n _ => exact st_lstore_n C w0 hw hR hm hs kk
  | istore _ => exact st_istore C w0 hw hR hm hs kk
  | astore _ => exact st_astore C w0 hw hR hm hs kk
  | lstore _ => exact st_lstore C w0 hw hR hm hs kk
  | iinc _ _ => exact st_iinc C w0 hw hR hm hs kk
  | ldc _ => exact st_ldc C w0 hw hR hm hs hstr kk
  | ldc_w _ => exact st_ldc_w C w0 hw hR hm hs kk
  | ldc2_w _ => exact st_ldc2_w C w0 hw hR hm hs kk
  | getfield _ => exact st_getfield C w0 hw hR hm hs kk
  | putfield _ => exact st_putfield C w0 hw hR hm hs kk
  | iaload => exact st_iaload C w0 hw hR hm hs hL kk
  | baload => exact st_baload C w0 hw hR hm hs kk
  | laload => exact st_laload C w0 hw hR hm hs kk
  | iastore => exact st_iastore C w0 hw hR hm hs kk
  | bastore => exact st_bastore C w0 hw hR hm hs kk
  | lastore => exact st_lastore C w0 hw hR hm hs kk
  | aaload => exact st_aaload C w0 hw hR hm hs kk
  | arraylength => exact st_arraylength C w0 hw hR hm hs kk
  | tableswitch _ _ _ _ => exact st_tableswitch C hm hs kk
  | invokestatic _ => exact st_invokestatic C w0 hw hR hm hs kk
  | invokevirtual _ => exact st_invokevirtual C w0 hw hR hm hs HS kk
  | _ => exact nomatch (show (none : PR) = some _ from hs)
theorem pret_spec {rt : Nat} {o : Option Value} (hr : pret rt e0 st = some o) :
    (e0.1 = .ireturn ∧ ∃ x, st = [.int x] ∧ ((rt = 1 ∧ o = some (.int x)) ∨ (rt = 2 ∧ (x = 0 ∨ x = 1) ∧ o = some (.int x)))) ∨ (e0.1 = .lreturn ∧ ∃ x, st = [.long x] ∧ rt = 3 ∧ o = some (.long x)) ∨ (e0.1 = .return_ ∧ st = [] ∧ rt = 0 ∧ o = none) := by
  unfold pret at hr
  split at hr
  · rename_i hi
    split at hr
    · rename_i x
      split at hr
      · cases hr
        exact Or.inl ⟨hi, x, rfl, Or.inl ⟨rfl, rfl⟩⟩
      · by_cases q0 : x = 0
        · rw [if_pos q0] at hr
          cases hr
          exact Or.inl ⟨hi, x, rfl, Or.inr ⟨rfl, Or.inl q0, by rw [q0]⟩⟩
        · rw [if_neg q0] at hr
          by_cases q1 : x = 1
          · rw [if_pos q1] at hr
            cases hr
            exact Or.inl ⟨hi, x, rfl, Or.inr ⟨rfl, Or.inr q1, by rw [q1]⟩⟩
          · rw [if_neg q1] at hr
            cases hr
      · cases hr
    · cases hr
  · rename_i hi
    split at hr
    · rename_i x
      split at hr
      · cases hr
        exact Or.inr (Or.inl ⟨hi, x, rfl, rfl, rfl⟩)
      · cases hr
    · cases hr
  · rename_i hi
    split at hr
    · split at hr
      · cases hr
        exact Or.inr (Or.inr ⟨hi, rfl, rfl, rfl⟩)
      · cases hr
    · cases hr
  · cases hr
theorem rtN_1 {r : Option FieldType} (h : rtN r = 1) : r = some .int := by
  unfold rtN at h
  split at h <;> first | rfl | (exact absurd h (by decide))
theorem rtN_2 {r : Option FieldType} (h : rtN r = 2) : r = some .boolean := by
  unfold rtN at h
  split at h <;> first | rfl | (exact absurd h (by decide))
theorem rtN_3 {r : Option FieldType} (h : rtN r = 3) : r = some .long := by
  unfold rtN at h
  split at h <;> first | rfl | (exact absurd h (by decide))
theorem rtN_0 {r : Option FieldType} (h : rtN r = 0) : r = none := by
  unfold rtN at h
  split at h <;> first | rfl | (exact absurd h (by decide))
theorem goodIn_g {ws : List Cond} (h : ∀ w ∈ ws, w ∈ gtbl) : GoodIn gtbl ws := fun w hw => ⟨h w hw, good_of_word (List.mem_filter.mp (h w hw)).2⟩
theorem ownN_fC {ci : Nat} (h : ci < 9) : ownN ci = fC ci := by
  have : ci = 0 ∨ ci = 1 ∨ ci = 2 ∨ ci = 3 ∨ ci = 4 ∨ ci = 5 ∨ ci = 6 ∨ ci = 7 ∨ ci = 8 := by omega
  rcases this with rfl | rfl | rfl | rfl | rfl | rfl | rfl | rfl | rfl <;> rfl
/-- behind a call -/
theorem run_W {H : Heap} {locs : List Loc} {ls : Array Slot} {st0 rest : List Value} {mc ms : Nat} {o1 : PO} {h1 : PH} {a9 : Array Value}
    (hr : vx_Run p l e R s m args below meth c H locs cells slots mc ms (F0 m pc ls st0) rest (QK z L xs o1 h1 a9) (XK z L xs o1 h1) (A0 z)) (hS : va_S (A0 z) s.heap H locs)
    (kn : ∀ (v : Option Value) (H1 : Heap) (locs1 : List Loc), o1 = .inl v → va_P z.1 vwCl (wd z h1) H1 → scr L xs h1 → va_S (A0 z) s.heap H1 locs1 → W p l e R s m args below meth c H1 locs1 (cells + mc) (slots + ms) Q (F0 m (pc + 3) ls ((v.map (img z.2.2.1)).toList ++ rest)))
    (kx : ∀ (j : Nat) (ce : Cell) (q : Addr) (H1 : Heap) (locs1 : List Loc), o1 = .inr j → j < 4 → va_P z.1 vwCl (wd z h1) H1 → scr L xs h1 → va_S (A0 z) s.heap H1 locs1 → H1[q]? = some ce → ce.vm = .none → s.vm.findClass (exN j) = some ce.cls → vx_W p l e R s m args below meth c H1 locs1 (cells + mc) (slots + ms) Q (F0 m pc ls rest) q) :
    W p l e R s m args below meth c H locs cells slots Q (F0 m pc ls st0) := by
  intro T hT X
  rcases hr T hT X with ⟨v, st₀, t, T', L9, h0, X', hL, e1, e2, ⟨⟨v0, ho, hv⟩, ⟨hw1, hsc⟩, hF⟩, st⟩ | ⟨q, st₀, t, T', L9, E, ce, h0, X', hL, e1, e2, ⟨⟨j, ho, rfl, hj⟩, ⟨hw1, hsc⟩, hF⟩, hce, hcv, hcl, st⟩
  · obtain ⟨k1, k2, k3⟩ := vx_keep h0 e1 hS (fun q _ h => h) (fun q h => h) hL hF
    cases hv
    obtain ⟨t2, a1, b1⟩ := kn v0 T'.heap (locs ++ L9) ho (by rw [e1]; exact hw1) hsc k3 T' rfl X'
    exact ⟨t2, st t2 a1, b1⟩
  · obtain ⟨k1, k2, k3⟩ := vx_keep h0 e1 hS (fun q _ h => h) (fun q h => h) hL hF
    obtain ⟨t2, a1, b1⟩ := kx j ce q T'.heap (locs ++ L9) ho hj (by rw [e1]; exact hw1) hsc k3 (by rw [e1]; exact hce) hcv hcl T' rfl X'
    exact ⟨t2, st.trans a1, b1⟩
end WLK
