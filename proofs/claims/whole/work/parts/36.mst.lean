/-! A STEP OF THE MAKER IS A STEP OF THE MACHINE -/
section MST
variable {p : Program} {l : Launch} {e : Env} {R : Room} {s : State} {m : MethodId} {args : Array Value} {below : List Frame} {meth : Method} {c : Code} {Q : State → Prop} {cells slots : Nat}
variable {z : PP} {nL ci pc n0 : Nat} {ad0 : Nat → Nat} {lv : PL} {st : List Value} {M : List MT}
/-- what a maker's body knows of its code and class -/
def MX (ci nL : Nat) (p : Program) (s : State) (m : MethodId) (args : Array Value) (c : Code) : Prop :=
  p.tables.exec = Jvm.exec ∧ c.code = mBy ci ∧ c.maxLocals = nL ∧ s.vm.findClass (ownN ci) = some m.cls ∧ (∀ w ∈ gtbl, w.before args s = true)
/-- from here it runs to Q: for all addresses that agree with ad0 on the first n0 things and on the script -/
def MGoal (p : Program) (l : Launch) (e : Env) (R : Room) (s : State) (m : MethodId) (args : Array Value) (below : List Frame) (meth : Method) (c : Code) (cells slots : Nat) (Q : State → Prop) (z : PP) (nL n0 : Nat) (ad0 : Nat → Nat) (pc : Nat) (lv : PL) (st : List Value) (M : List MT) : Prop :=
  ∀ (ad : Nat → Nat) (H : Heap) (locs : List Loc) (ls : Array Slot), (∀ i, i < n0 ∨ i = 167 → ad i = ad0 i) → va_P z.1 vwCl (mkW z.2.1 ad M) H → va_D (A0 z) (mkW z.2.1 ad M) → va_S (A0 z) s.heap H locs → LH ad ls nL lv →
    W p l e R s m args below meth c H locs cells slots Q (F0 m pc ls (st.map (img ad)))
theorem ms_aload_n {i : Fin 4} {a : Nat} (C : MX ci nL p s m args c) (hd : decode (mBy ci) pc = .ok (.aload_n i, 1)) (hl : lgo lv i.val = some (.ref a))
    (kk : MGoal p l e R s m args below meth c cells slots Q z nL n0 ad0 (pc + 1) lv (.ref a :: st) M) : MGoal p l e R s m args below meth c cells slots Q z nL n0 ad0 pc lv st M :=
  fun ad H locs ls h0 h1 h2 h3 h4 => lv_aload_n C.1 C.2.1 hd rfl (h4.2.2 _ _ hl) (kk ad H locs ls h0 h1 h2 h3 h4)
theorem ms_iload_n {i : Fin 4} {a : Int32} (C : MX ci nL p s m args c) (hd : decode (mBy ci) pc = .ok (.iload_n i, 1)) (hl : lgo lv i.val = some (.int a))
    (kk : MGoal p l e R s m args below meth c cells slots Q z nL n0 ad0 (pc + 1) lv (.int a :: st) M) : MGoal p l e R s m args below meth c cells slots Q z nL n0 ad0 pc lv st M :=
  fun ad H locs ls h0 h1 h2 h3 h4 => lv_iload_n C.1 C.2.1 hd rfl (h4.2.2 _ _ hl) (kk ad H locs ls h0 h1 h2 h3 h4)
theorem ms_iconst {n : Int} (C : MX ci nL p s m args c) (hd : decode (mBy ci) pc = .ok (.iconst n, 1))
    (kk : MGoal p l e R s m args below meth c cells slots Q z nL n0 ad0 (pc + 1) lv (.int (Int32.ofInt n) :: st) M) : MGoal p l e R s m args below meth c cells slots Q z nL n0 ad0 pc lv st M :=
  fun ad H locs ls h0 h1 h2 h3 h4 => lv_iconst C.1 C.2.1 hd rfl (kk ad H locs ls h0 h1 h2 h3 h4)
theorem ms_bipush {n : Int} (C : MX ci nL p s m args c) (hd : decode (mBy ci) pc = .ok (.bipush n, 2))
    (kk : MGoal p l e R s m args below meth c cells slots Q z nL n0 ad0 (pc + 2) lv (.int (Int8.ofInt n).toInt32 :: st) M) : MGoal p l e R s m args below meth c cells slots Q z nL n0 ad0 pc lv st M :=
  fun ad H locs ls h0 h1 h2 h3 h4 => lv_bipush C.1 C.2.1 hd rfl (kk ad H locs ls h0 h1 h2 h3 h4)
theorem ms_sipush {n : Int} (C : MX ci nL p s m args c) (hd : decode (mBy ci) pc = .ok (.sipush n, 3))
    (kk : MGoal p l e R s m args below meth c cells slots Q z nL n0 ad0 (pc + 3) lv (.int (Int16.ofInt n).toInt32 :: st) M) : MGoal p l e R s m args below meth c cells slots Q z nL n0 ad0 pc lv st M :=
  fun ad H locs ls h0 h1 h2 h3 h4 => lv_sipush C.1 C.2.1 hd rfl (kk ad H locs ls h0 h1 h2 h3 h4)
theorem ms_dup {a : Nat} (C : MX ci nL p s m args c) (hd : decode (mBy ci) pc = .ok (.dup, 1))
    (kk : MGoal p l e R s m args below meth c cells slots Q z nL n0 ad0 (pc + 1) lv (.ref a :: .ref a :: st) M) : MGoal p l e R s m args below meth c cells slots Q z nL n0 ad0 pc lv (.ref a :: st) M :=
  fun ad H locs ls h0 h1 h2 h3 h4 => lv_dup C.1 C.2.1 hd rfl (kk ad H locs ls h0 h1 h2 h3 h4)
theorem ms_goto {d : Int} (C : MX ci nL p s m args c) (hd : decode (mBy ci) pc = .ok (.goto d, 3)) (hp : 0 ≤ (pc : Int) + d)
    (kk : MGoal p l e R s m args below meth c cells slots Q z nL n0 ad0 ((pc : Int) + d).toNat lv st M) : MGoal p l e R s m args below meth c cells slots Q z nL n0 ad0 pc lv st M :=
  fun ad H locs ls h0 h1 h2 h3 h4 => lv_goto C.1 C.2.1 hd (by omega) (kk ad H locs ls h0 h1 h2 h3 h4)
end MST
