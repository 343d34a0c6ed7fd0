/-! ONE THEOREM A KIND OF INSTRUCTION: written by wip/whole/genstp.py -/
theorem chk3 {A : Prop} [Decidable A] {n m : Nat} {B : Bool} (h : (decide A && Nat.beq n m && B) = true) : A ∧ n = m ∧ B = true := by
  simp only [Bool.and_eq_true, decide_eq_true_eq] at h
  exact ⟨h.1.1, Nat.eq_of_beq_eq_true h.1.2, h.2⟩
theorem beq2 {a b : Nat} {B : Bool} (h : (Nat.beq a b && B) = true) : a = b ∧ B = true := by
  rw [Bool.and_eq_true] at h
  exact ⟨Nat.eq_of_beq_eq_true h.1, h.2⟩
theorem and2 {a b : Bool} (h : (a && b) = true) : a = true ∧ b = true := by
  rw [Bool.and_eq_true] at h
  exact h
theorem blt_of {a b : Nat} (h : Nat.blt a b = true) : a < b := Nat.le_of_ble_eq_true h
theorem usw : ∀ ci, ci < 9 → ∀ w ∈ u_ws (fC ci) (fT ci) (fN ci), w ∈ gtbl := by
  have key : ∀ ci, ci < 9 → (u_ws (fC ci) (fT ci) (fN ci)).all (fun w => decide (w ∈ lw_tbl) && goodWord w) = true := by decide +kernel
  intro ci hc w hw
  have h1 := List.all_eq_true.mp (key ci hc) w hw
  rw [Bool.and_eq_true, decide_eq_true_eq] at h1
  exact gtbl_in h1.1 h1.2
theorem clA {ci : Nat} (h : ci < 9) : vwCl[ci]? = some (fC ci, fT ci, fN ci) := by
  have : ci = 0 ∨ ci = 1 ∨ ci = 2 ∨ ci = 3 ∨ ci = 4 ∨ ci = 5 ∨ ci = 6 ∨ ci = 7 ∨ ci = 8 := by omega
  rcases this with rfl | rfl | rfl | rfl | rfl | rfl | rfl | rfl | rfl <;> rfl
def fY (ci : Nat) : Nat → FieldType := match ci with
  | 0 => tyX0
  | 1 => tyX1
  | 2 => tyX2
  | 3 => tyX3
  | 4 => tyX4
  | 5 => tyX5
  | 6 => tyX6
  | 7 => tyX7
  | _ => tyX8
theorem fY_ok {ci : Nat} (h : ci < 9) : ∀ k, k < fN ci → parseFieldDescriptor (fT ci k).2.2.1 = some (fY ci k) := by
  have : ci = 0 ∨ ci = 1 ∨ ci = 2 ∨ ci = 3 ∨ ci = 4 ∨ ci = 5 ∨ ci = 6 ∨ ci = 7 ∨ ci = 8 := by omega
  rcases this with rfl | rfl | rfl | rfl | rfl | rfl | rfl | rfl | rfl
  · exact tyX0_ok
  · exact tyX1_ok
  · exact tyX2_ok
  · exact tyX3_ok
  · exact tyX4_ok
  · exact tyX5_ok
  · exact tyX6_ok
  · exact tyX7_ok
  · exact tyX8_ok
theorem fM_ok {ci : Nat} (h : ci < 9) : ∀ a, a < fN ci → ∀ b, b < fN ci → a ≠ b → (fT ci a).2.1 ≠ (fT ci b).2.1 := by
  have : ci = 0 ∨ ci = 1 ∨ ci = 2 ∨ ci = 3 ∨ ci = 4 ∨ ci = 5 ∨ ci = 6 ∨ ci = 7 ∨ ci = 8 := by omega
  rcases this with rfl | rfl | rfl | rfl | rfl | rfl | rfl | rfl | rfl
  · exact nmX0
  · exact nmX1
  · exact nmX2
  · exact nmX3
  · exact nmX4
  · exact nmX5
  · exact nmX6
  · exact nmX7
  · exact nmX8
theorem lay_5 {r n q d : Nat} (hl : layF r = (5, n, [some q, some d])) : q = 34 ∨ q = 90 := by
  have h : ∀ r, r < 168 → (layF r).1 = 5 → r = 31 ∨ r = 32 := by decide +kernel
  rcases Nat.lt_or_ge r 168 with q9 | q9
  · rcases h r q9 (by rw [hl]) with rfl | rfl
    · cases (show ((5 : Nat), (8 : Nat), [some 34, some 7]) = (5, n, [some q, some d]) from hl)
      exact Or.inl rfl
    · cases (show ((5 : Nat), (8 : Nat), [some 90, some 4]) = (5, n, [some q, some d]) from hl)
      exact Or.inr rfl
  · rw [lay_out q9] at hl
    cases hl
theorem lay_5f {r n : Nat} {fs : List (Option Nat)} (hl : layF r = (5, n, fs)) : ∃ q d, fs = [some q, some d] ∧ (q = 34 ∨ q = 90) := by
  have h : ∀ r, r < 168 → (layF r).1 = 5 → r = 31 ∨ r = 32 := by decide +kernel
  rcases Nat.lt_or_ge r 168 with q9 | q9
  · rcases h r q9 (by rw [hl]) with rfl | rfl
    · cases (show ((5 : Nat), (8 : Nat), [some 34, some 7]) = (5, n, fs) from hl)
      exact ⟨34, 7, rfl, Or.inl rfl⟩
    · cases (show ((5 : Nat), (8 : Nat), [some 90, some 4]) = (5, n, fs) from hl)
      exact ⟨90, 4, rfl, Or.inr rfl⟩
  · rw [lay_out q9] at hl
    cases hl
section STP2
variable {p : Program} {l : Launch} {e : Env} {R : Room} {s : State} {m : MethodId} {args : Array Value} {below : List Frame} {meth : Method} {c : Code} {Q : State → Prop} {cells slots : Nat}
variable {z : PP} {k L : Nat} {xs : Nat → Int32} {pc nx a b t : Nat} {v : Int32} {w : Int64} {lv lv' : PL} {st st' : List Value} {h h' : PH} {pc' : Nat}

theorem st_iadd  (C : CX k p s m args c) (w0 : WS z L xs s) (hw : WF z) (hR : 10 ≤ R.frames ∧ 200 ≤ R.locals ∧ cells ≤ R.cells ∧ slots ≤ R.slots) (hm : (miOf k).1 pc = some (.iadd, nx, a, b, t, v, w)) (hs : pstep layF slenF schF (.iadd, nx, a, b, t, v, w) lv st h = some (pc', lv', st', h')) 
    (kk : StepGoal p l e R s m args below meth c cells slots Q z k L xs pc' lv' st' h') : StepGoal p l e R s m args below meth c cells slots Q z k L xs pc lv st h := by
  obtain ⟨hx, hb, hml, hown, hts⟩ := C
  obtain ⟨hd, rfl, hi⟩ := chk3 (A := decode (ccOf k) pc = .ok (.iadd, ilen (.iadd))) (n := nx) (m := pc + ilen (.iadd)) (B := Nat.blt (pidx (.iadd)) 1000 && chkI k pc (.iadd) a b t v w) (chkE_at hm)
  obtain ⟨hx0, hi⟩ := and2 hi
  have hx0 : pidx (.iadd) < 1000 := blt_of hx0
  intro H locs ls hP hS hq hl
  have hs1 : (match (generalizing := false) st with
    | .int y :: .int x :: r => some ((pc + ilen (.iadd)), lv, .int (x + y) :: r, h)
    | _ => none) = some (pc', lv', st', h') := hs
  split at hs1
  · cases hs1
    exact lv_iadd hx hb hd (kk H locs ls hP hS hq hl)
  · cases hs1
theorem st_isub  (C : CX k p s m args c) (w0 : WS z L xs s) (hw : WF z) (hR : 10 ≤ R.frames ∧ 200 ≤ R.locals ∧ cells ≤ R.cells ∧ slots ≤ R.slots) (hm : (miOf k).1 pc = some (.isub, nx, a, b, t, v, w)) (hs : pstep layF slenF schF (.isub, nx, a, b, t, v, w) lv st h = some (pc', lv', st', h')) 
    (kk : StepGoal p l e R s m args below meth c cells slots Q z k L xs pc' lv' st' h') : StepGoal p l e R s m args below meth c cells slots Q z k L xs pc lv st h := by
  obtain ⟨hx, hb, hml, hown, hts⟩ := C
  obtain ⟨hd, rfl, hi⟩ := chk3 (A := decode (ccOf k) pc = .ok (.isub, ilen (.isub))) (n := nx) (m := pc + ilen (.isub)) (B := Nat.blt (pidx (.isub)) 1000 && chkI k pc (.isub) a b t v w) (chkE_at hm)
  obtain ⟨hx0, hi⟩ := and2 hi
  have hx0 : pidx (.isub) < 1000 := blt_of hx0
  intro H locs ls hP hS hq hl
  have hs1 : (match (generalizing := false) st with
    | .int y :: .int x :: r => some ((pc + ilen (.isub)), lv, .int (x - y) :: r, h)
    | _ => none) = some (pc', lv', st', h') := hs
  split at hs1
  · cases hs1
    exact lv_isub hx hb hd (kk H locs ls hP hS hq hl)
  · cases hs1
theorem st_imul  (C : CX k p s m args c) (w0 : WS z L xs s) (hw : WF z) (hR : 10 ≤ R.frames ∧ 200 ≤ R.locals ∧ cells ≤ R.cells ∧ slots ≤ R.slots) (hm : (miOf k).1 pc = some (.imul, nx, a, b, t, v, w)) (hs : pstep layF slenF schF (.imul, nx, a, b, t, v, w) lv st h = some (pc', lv', st', h')) 
    (kk : StepGoal p l e R s m args below meth c cells slots Q z k L xs pc' lv' st' h') : StepGoal p l e R s m args below meth c cells slots Q z k L xs pc lv st h := by
  obtain ⟨hx, hb, hml, hown, hts⟩ := C
  obtain ⟨hd, rfl, hi⟩ := chk3 (A := decode (ccOf k) pc = .ok (.imul, ilen (.imul))) (n := nx) (m := pc + ilen (.imul)) (B := Nat.blt (pidx (.imul)) 1000 && chkI k pc (.imul) a b t v w) (chkE_at hm)
  obtain ⟨hx0, hi⟩ := and2 hi
  have hx0 : pidx (.imul) < 1000 := blt_of hx0
  intro H locs ls hP hS hq hl
  have hs1 : (match (generalizing := false) st with
    | .int y :: .int x :: r => some ((pc + ilen (.imul)), lv, .int (x * y) :: r, h)
    | _ => none) = some (pc', lv', st', h') := hs
  split at hs1
  · cases hs1
    exact lv_imul hx hb hd (kk H locs ls hP hS hq hl)
  · cases hs1
theorem st_iand  (C : CX k p s m args c) (w0 : WS z L xs s) (hw : WF z) (hR : 10 ≤ R.frames ∧ 200 ≤ R.locals ∧ cells ≤ R.cells ∧ slots ≤ R.slots) (hm : (miOf k).1 pc = some (.iand, nx, a, b, t, v, w)) (hs : pstep layF slenF schF (.iand, nx, a, b, t, v, w) lv st h = some (pc', lv', st', h')) 
    (kk : StepGoal p l e R s m args below meth c cells slots Q z k L xs pc' lv' st' h') : StepGoal p l e R s m args below meth c cells slots Q z k L xs pc lv st h := by
  obtain ⟨hx, hb, hml, hown, hts⟩ := C
  obtain ⟨hd, rfl, hi⟩ := chk3 (A := decode (ccOf k) pc = .ok (.iand, ilen (.iand))) (n := nx) (m := pc + ilen (.iand)) (B := Nat.blt (pidx (.iand)) 1000 && chkI k pc (.iand) a b t v w) (chkE_at hm)
  obtain ⟨hx0, hi⟩ := and2 hi
  have hx0 : pidx (.iand) < 1000 := blt_of hx0
  intro H locs ls hP hS hq hl
  have hs1 : (match (generalizing := false) st with
    | .int y :: .int x :: r => some ((pc + ilen (.iand)), lv, .int (x &&& y) :: r, h)
    | _ => none) = some (pc', lv', st', h') := hs
  split at hs1
  · cases hs1
    exact lv_iand hx hb hd (kk H locs ls hP hS hq hl)
  · cases hs1
theorem st_ior  (C : CX k p s m args c) (w0 : WS z L xs s) (hw : WF z) (hR : 10 ≤ R.frames ∧ 200 ≤ R.locals ∧ cells ≤ R.cells ∧ slots ≤ R.slots) (hm : (miOf k).1 pc = some (.ior, nx, a, b, t, v, w)) (hs : pstep layF slenF schF (.ior, nx, a, b, t, v, w) lv st h = some (pc', lv', st', h')) 
    (kk : StepGoal p l e R s m args below meth c cells slots Q z k L xs pc' lv' st' h') : StepGoal p l e R s m args below meth c cells slots Q z k L xs pc lv st h := by
  obtain ⟨hx, hb, hml, hown, hts⟩ := C
  obtain ⟨hd, rfl, hi⟩ := chk3 (A := decode (ccOf k) pc = .ok (.ior, ilen (.ior))) (n := nx) (m := pc + ilen (.ior)) (B := Nat.blt (pidx (.ior)) 1000 && chkI k pc (.ior) a b t v w) (chkE_at hm)
  obtain ⟨hx0, hi⟩ := and2 hi
  have hx0 : pidx (.ior) < 1000 := blt_of hx0
  intro H locs ls hP hS hq hl
  have hs1 : (match (generalizing := false) st with
    | .int y :: .int x :: r => some ((pc + ilen (.ior)), lv, .int (x ||| y) :: r, h)
    | _ => none) = some (pc', lv', st', h') := hs
  split at hs1
  · cases hs1
    exact lv_ior hx hb hd (kk H locs ls hP hS hq hl)
  · cases hs1
theorem st_ixor  (C : CX k p s m args c) (w0 : WS z L xs s) (hw : WF z) (hR : 10 ≤ R.frames ∧ 200 ≤ R.locals ∧ cells ≤ R.cells ∧ slots ≤ R.slots) (hm : (miOf k).1 pc = some (.ixor, nx, a, b, t, v, w)) (hs : pstep layF slenF schF (.ixor, nx, a, b, t, v, w) lv st h = some (pc', lv', st', h')) 
    (kk : StepGoal p l e R s m args below meth c cells slots Q z k L xs pc' lv' st' h') : StepGoal p l e R s m args below meth c cells slots Q z k L xs pc lv st h := by
  obtain ⟨hx, hb, hml, hown, hts⟩ := C
  obtain ⟨hd, rfl, hi⟩ := chk3 (A := decode (ccOf k) pc = .ok (.ixor, ilen (.ixor))) (n := nx) (m := pc + ilen (.ixor)) (B := Nat.blt (pidx (.ixor)) 1000 && chkI k pc (.ixor) a b t v w) (chkE_at hm)
  obtain ⟨hx0, hi⟩ := and2 hi
  have hx0 : pidx (.ixor) < 1000 := blt_of hx0
  intro H locs ls hP hS hq hl
  have hs1 : (match (generalizing := false) st with
    | .int y :: .int x :: r => some ((pc + ilen (.ixor)), lv, .int (x ^^^ y) :: r, h)
    | _ => none) = some (pc', lv', st', h') := hs
  split at hs1
  · cases hs1
    exact lv_ixor hx hb hd (kk H locs ls hP hS hq hl)
  · cases hs1
theorem st_ishl  (C : CX k p s m args c) (w0 : WS z L xs s) (hw : WF z) (hR : 10 ≤ R.frames ∧ 200 ≤ R.locals ∧ cells ≤ R.cells ∧ slots ≤ R.slots) (hm : (miOf k).1 pc = some (.ishl, nx, a, b, t, v, w)) (hs : pstep layF slenF schF (.ishl, nx, a, b, t, v, w) lv st h = some (pc', lv', st', h')) 
    (kk : StepGoal p l e R s m args below meth c cells slots Q z k L xs pc' lv' st' h') : StepGoal p l e R s m args below meth c cells slots Q z k L xs pc lv st h := by
  obtain ⟨hx, hb, hml, hown, hts⟩ := C
  obtain ⟨hd, rfl, hi⟩ := chk3 (A := decode (ccOf k) pc = .ok (.ishl, ilen (.ishl))) (n := nx) (m := pc + ilen (.ishl)) (B := Nat.blt (pidx (.ishl)) 1000 && chkI k pc (.ishl) a b t v w) (chkE_at hm)
  obtain ⟨hx0, hi⟩ := and2 hi
  have hx0 : pidx (.ishl) < 1000 := blt_of hx0
  intro H locs ls hP hS hq hl
  have hs1 : (match (generalizing := false) st with
    | .int y :: .int x :: r => some ((pc + ilen (.ishl)), lv, .int (x <<< (y &&& 31)) :: r, h)
    | _ => none) = some (pc', lv', st', h') := hs
  split at hs1
  · cases hs1
    exact lv_ishl hx hb hd (kk H locs ls hP hS hq hl)
  · cases hs1
theorem st_ishr  (C : CX k p s m args c) (w0 : WS z L xs s) (hw : WF z) (hR : 10 ≤ R.frames ∧ 200 ≤ R.locals ∧ cells ≤ R.cells ∧ slots ≤ R.slots) (hm : (miOf k).1 pc = some (.ishr, nx, a, b, t, v, w)) (hs : pstep layF slenF schF (.ishr, nx, a, b, t, v, w) lv st h = some (pc', lv', st', h')) 
    (kk : StepGoal p l e R s m args below meth c cells slots Q z k L xs pc' lv' st' h') : StepGoal p l e R s m args below meth c cells slots Q z k L xs pc lv st h := by
  obtain ⟨hx, hb, hml, hown, hts⟩ := C
  obtain ⟨hd, rfl, hi⟩ := chk3 (A := decode (ccOf k) pc = .ok (.ishr, ilen (.ishr))) (n := nx) (m := pc + ilen (.ishr)) (B := Nat.blt (pidx (.ishr)) 1000 && chkI k pc (.ishr) a b t v w) (chkE_at hm)
  obtain ⟨hx0, hi⟩ := and2 hi
  have hx0 : pidx (.ishr) < 1000 := blt_of hx0
  intro H locs ls hP hS hq hl
  have hs1 : (match (generalizing := false) st with
    | .int y :: .int x :: r => some ((pc + ilen (.ishr)), lv, .int (x >>> (y &&& 31)) :: r, h)
    | _ => none) = some (pc', lv', st', h') := hs
  split at hs1
  · cases hs1
    exact lv_ishr hx hb hd (kk H locs ls hP hS hq hl)
  · cases hs1
theorem st_iushr  (C : CX k p s m args c) (w0 : WS z L xs s) (hw : WF z) (hR : 10 ≤ R.frames ∧ 200 ≤ R.locals ∧ cells ≤ R.cells ∧ slots ≤ R.slots) (hm : (miOf k).1 pc = some (.iushr, nx, a, b, t, v, w)) (hs : pstep layF slenF schF (.iushr, nx, a, b, t, v, w) lv st h = some (pc', lv', st', h')) 
    (kk : StepGoal p l e R s m args below meth c cells slots Q z k L xs pc' lv' st' h') : StepGoal p l e R s m args below meth c cells slots Q z k L xs pc lv st h := by
  obtain ⟨hx, hb, hml, hown, hts⟩ := C
  obtain ⟨hd, rfl, hi⟩ := chk3 (A := decode (ccOf k) pc = .ok (.iushr, ilen (.iushr))) (n := nx) (m := pc + ilen (.iushr)) (B := Nat.blt (pidx (.iushr)) 1000 && chkI k pc (.iushr) a b t v w) (chkE_at hm)
  obtain ⟨hx0, hi⟩ := and2 hi
  have hx0 : pidx (.iushr) < 1000 := blt_of hx0
  intro H locs ls hP hS hq hl
  have hs1 : (match (generalizing := false) st with
    | .int y :: .int x :: r => some ((pc + ilen (.iushr)), lv, .int ((x.toUInt32 >>> (y.toUInt32 &&& Int32.toUInt32 31)).toInt32) :: r, h)
    | _ => none) = some (pc', lv', st', h') := hs
  split at hs1
  · cases hs1
    exact lv_iushr hx hb hd rfl (kk H locs ls hP hS hq hl)
  · cases hs1
theorem st_idiv  (C : CX k p s m args c) (w0 : WS z L xs s) (hw : WF z) (hR : 10 ≤ R.frames ∧ 200 ≤ R.locals ∧ cells ≤ R.cells ∧ slots ≤ R.slots) (hm : (miOf k).1 pc = some (.idiv, nx, a, b, t, v, w)) (hs : pstep layF slenF schF (.idiv, nx, a, b, t, v, w) lv st h = some (pc', lv', st', h')) 
    (kk : StepGoal p l e R s m args below meth c cells slots Q z k L xs pc' lv' st' h') : StepGoal p l e R s m args below meth c cells slots Q z k L xs pc lv st h := by
  obtain ⟨hx, hb, hml, hown, hts⟩ := C
  obtain ⟨hd, rfl, hi⟩ := chk3 (A := decode (ccOf k) pc = .ok (.idiv, ilen (.idiv))) (n := nx) (m := pc + ilen (.idiv)) (B := Nat.blt (pidx (.idiv)) 1000 && chkI k pc (.idiv) a b t v w) (chkE_at hm)
  obtain ⟨hx0, hi⟩ := and2 hi
  have hx0 : pidx (.idiv) < 1000 := blt_of hx0
  intro H locs ls hP hS hq hl
  have hs1 : (match (generalizing := false) st with
    | .int y :: .int x :: r => if y = 0 then none else some ((pc + ilen (.idiv)), lv, .int (x / y) :: r, h)
    | _ => none) = some (pc', lv', st', h') := hs
  split at hs1
  · rename_i y x r
    by_cases hy : y = 0
    · rw [if_pos hy] at hs1
      cases hs1
    · rw [if_neg hy] at hs1
      cases hs1
      exact lv_idiv hx hb hd hy (kk H locs ls hP hS hq hl)
  · cases hs1
theorem st_irem  (C : CX k p s m args c) (w0 : WS z L xs s) (hw : WF z) (hR : 10 ≤ R.frames ∧ 200 ≤ R.locals ∧ cells ≤ R.cells ∧ slots ≤ R.slots) (hm : (miOf k).1 pc = some (.irem, nx, a, b, t, v, w)) (hs : pstep layF slenF schF (.irem, nx, a, b, t, v, w) lv st h = some (pc', lv', st', h')) 
    (kk : StepGoal p l e R s m args below meth c cells slots Q z k L xs pc' lv' st' h') : StepGoal p l e R s m args below meth c cells slots Q z k L xs pc lv st h := by
  obtain ⟨hx, hb, hml, hown, hts⟩ := C
  obtain ⟨hd, rfl, hi⟩ := chk3 (A := decode (ccOf k) pc = .ok (.irem, ilen (.irem))) (n := nx) (m := pc + ilen (.irem)) (B := Nat.blt (pidx (.irem)) 1000 && chkI k pc (.irem) a b t v w) (chkE_at hm)
  obtain ⟨hx0, hi⟩ := and2 hi
  have hx0 : pidx (.irem) < 1000 := blt_of hx0
  intro H locs ls hP hS hq hl
  have hs1 : (match (generalizing := false) st with
    | .int y :: .int x :: r => if y = 0 then none else some ((pc + ilen (.irem)), lv, .int (x - x / y * y) :: r, h)
    | _ => none) = some (pc', lv', st', h') := hs
  split at hs1
  · rename_i y x r
    by_cases hy : y = 0
    · rw [if_pos hy] at hs1
      cases hs1
    · rw [if_neg hy] at hs1
      cases hs1
      exact lv_irem hx hb hd hy (kk H locs ls hP hS hq hl)
  · cases hs1
theorem st_ldiv  (C : CX k p s m args c) (w0 : WS z L xs s) (hw : WF z) (hR : 10 ≤ R.frames ∧ 200 ≤ R.locals ∧ cells ≤ R.cells ∧ slots ≤ R.slots) (hm : (miOf k).1 pc = some (.ldiv, nx, a, b, t, v, w)) (hs : pstep layF slenF schF (.ldiv, nx, a, b, t, v, w) lv st h = some (pc', lv', st', h')) 
    (kk : StepGoal p l e R s m args below meth c cells slots Q z k L xs pc' lv' st' h') : StepGoal p l e R s m args below meth c cells slots Q z k L xs pc lv st h := by
  obtain ⟨hx, hb, hml, hown, hts⟩ := C
  obtain ⟨hd, rfl, hi⟩ := chk3 (A := decode (ccOf k) pc = .ok (.ldiv, ilen (.ldiv))) (n := nx) (m := pc + ilen (.ldiv)) (B := Nat.blt (pidx (.ldiv)) 1000 && chkI k pc (.ldiv) a b t v w) (chkE_at hm)
  obtain ⟨hx0, hi⟩ := and2 hi
  have hx0 : pidx (.ldiv) < 1000 := blt_of hx0
  intro H locs ls hP hS hq hl
  have hs1 : (match (generalizing := false) st with
    | .long y :: .long x :: r => if y = 0 then none else some ((pc + ilen (.ldiv)), lv, .long (x / y) :: r, h)
    | _ => none) = some (pc', lv', st', h') := hs
  split at hs1
  · rename_i y x r
    by_cases hy : y = 0
    · rw [if_pos hy] at hs1
      cases hs1
    · rw [if_neg hy] at hs1
      cases hs1
      exact lv_ldiv hx hb hd hy (kk H locs ls hP hS hq hl)
  · cases hs1
theorem st_ineg  (C : CX k p s m args c) (w0 : WS z L xs s) (hw : WF z) (hR : 10 ≤ R.frames ∧ 200 ≤ R.locals ∧ cells ≤ R.cells ∧ slots ≤ R.slots) (hm : (miOf k).1 pc = some (.ineg, nx, a, b, t, v, w)) (hs : pstep layF slenF schF (.ineg, nx, a, b, t, v, w) lv st h = some (pc', lv', st', h')) 
    (kk : StepGoal p l e R s m args below meth c cells slots Q z k L xs pc' lv' st' h') : StepGoal p l e R s m args below meth c cells slots Q z k L xs pc lv st h := by
  obtain ⟨hx, hb, hml, hown, hts⟩ := C
  obtain ⟨hd, rfl, hi⟩ := chk3 (A := decode (ccOf k) pc = .ok (.ineg, ilen (.ineg))) (n := nx) (m := pc + ilen (.ineg)) (B := Nat.blt (pidx (.ineg)) 1000 && chkI k pc (.ineg) a b t v w) (chkE_at hm)
  obtain ⟨hx0, hi⟩ := and2 hi
  have hx0 : pidx (.ineg) < 1000 := blt_of hx0
  intro H locs ls hP hS hq hl
  have hs1 : (match (generalizing := false) st with
    | .int x :: r => some ((pc + ilen (.ineg)), lv, .int (-x) :: r, h)
    | _ => none) = some (pc', lv', st', h') := hs
  split at hs1
  · cases hs1
    exact lv_ineg hx hb hd (kk H locs ls hP hS hq hl)
  · cases hs1
theorem st_ladd  (C : CX k p s m args c) (w0 : WS z L xs s) (hw : WF z) (hR : 10 ≤ R.frames ∧ 200 ≤ R.locals ∧ cells ≤ R.cells ∧ slots ≤ R.slots) (hm : (miOf k).1 pc = some (.ladd, nx, a, b, t, v, w)) (hs : pstep layF slenF schF (.ladd, nx, a, b, t, v, w) lv st h = some (pc', lv', st', h')) 
    (kk : StepGoal p l e R s m args below meth c cells slots Q z k L xs pc' lv' st' h') : StepGoal p l e R s m args below meth c cells slots Q z k L xs pc lv st h := by
  obtain ⟨hx, hb, hml, hown, hts⟩ := C
  obtain ⟨hd, rfl, hi⟩ := chk3 (A := decode (ccOf k) pc = .ok (.ladd, ilen (.ladd))) (n := nx) (m := pc + ilen (.ladd)) (B := Nat.blt (pidx (.ladd)) 1000 && chkI k pc (.ladd) a b t v w) (chkE_at hm)
  obtain ⟨hx0, hi⟩ := and2 hi
  have hx0 : pidx (.ladd) < 1000 := blt_of hx0
  intro H locs ls hP hS hq hl
  have hs1 : (match (generalizing := false) st with
    | .long y :: .long x :: r => some ((pc + ilen (.ladd)), lv, .long (x + y) :: r, h)
    | _ => none) = some (pc', lv', st', h') := hs
  split at hs1
  · cases hs1
    exact lv_ladd hx hb hd (kk H locs ls hP hS hq hl)
  · cases hs1
theorem st_lsub  (C : CX k p s m args c) (w0 : WS z L xs s) (hw : WF z) (hR : 10 ≤ R.frames ∧ 200 ≤ R.locals ∧ cells ≤ R.cells ∧ slots ≤ R.slots) (hm : (miOf k).1 pc = some (.lsub, nx, a, b, t, v, w)) (hs : pstep layF slenF schF (.lsub, nx, a, b, t, v, w) lv st h = some (pc', lv', st', h')) 
    (kk : StepGoal p l e R s m args below meth c cells slots Q z k L xs pc' lv' st' h') : StepGoal p l e R s m args below meth c cells slots Q z k L xs pc lv st h := by
  obtain ⟨hx, hb, hml, hown, hts⟩ := C
  obtain ⟨hd, rfl, hi⟩ := chk3 (A := decode (ccOf k) pc = .ok (.lsub, ilen (.lsub))) (n := nx) (m := pc + ilen (.lsub)) (B := Nat.blt (pidx (.lsub)) 1000 && chkI k pc (.lsub) a b t v w) (chkE_at hm)
  obtain ⟨hx0, hi⟩ := and2 hi
  have hx0 : pidx (.lsub) < 1000 := blt_of hx0
  intro H locs ls hP hS hq hl
  have hs1 : (match (generalizing := false) st with
    | .long y :: .long x :: r => some ((pc + ilen (.lsub)), lv, .long (x - y) :: r, h)
    | _ => none) = some (pc', lv', st', h') := hs
  split at hs1
  · cases hs1
    exact lv_lsub hx hb hd (kk H locs ls hP hS hq hl)
  · cases hs1
theorem st_lmul  (C : CX k p s m args c) (w0 : WS z L xs s) (hw : WF z) (hR : 10 ≤ R.frames ∧ 200 ≤ R.locals ∧ cells ≤ R.cells ∧ slots ≤ R.slots) (hm : (miOf k).1 pc = some (.lmul, nx, a, b, t, v, w)) (hs : pstep layF slenF schF (.lmul, nx, a, b, t, v, w) lv st h = some (pc', lv', st', h')) 
    (kk : StepGoal p l e R s m args below meth c cells slots Q z k L xs pc' lv' st' h') : StepGoal p l e R s m args below meth c cells slots Q z k L xs pc lv st h := by
  obtain ⟨hx, hb, hml, hown, hts⟩ := C
  obtain ⟨hd, rfl, hi⟩ := chk3 (A := decode (ccOf k) pc = .ok (.lmul, ilen (.lmul))) (n := nx) (m := pc + ilen (.lmul)) (B := Nat.blt (pidx (.lmul)) 1000 && chkI k pc (.lmul) a b t v w) (chkE_at hm)
  obtain ⟨hx0, hi⟩ := and2 hi
  have hx0 : pidx (.lmul) < 1000 := blt_of hx0
  intro H locs ls hP hS hq hl
  have hs1 : (match (generalizing := false) st with
    | .long y :: .long x :: r => some ((pc + ilen (.lmul)), lv, .long (x * y) :: r, h)
    | _ => none) = some (pc', lv', st', h') := hs
  split at hs1
  · cases hs1
    exact lv_lmul hx hb hd (kk H locs ls hP hS hq hl)
  · cases hs1
theorem st_lcmp  (C : CX k p s m args c) (w0 : WS z L xs s) (hw : WF z) (hR : 10 ≤ R.frames ∧ 200 ≤ R.locals ∧ cells ≤ R.cells ∧ slots ≤ R.slots) (hm : (miOf k).1 pc = some (.lcmp, nx, a, b, t, v, w)) (hs : pstep layF slenF schF (.lcmp, nx, a, b, t, v, w) lv st h = some (pc', lv', st', h')) 
    (kk : StepGoal p l e R s m args below meth c cells slots Q z k L xs pc' lv' st' h') : StepGoal p l e R s m args below meth c cells slots Q z k L xs pc lv st h := by
  obtain ⟨hx, hb, hml, hown, hts⟩ := C
  obtain ⟨hd, rfl, hi⟩ := chk3 (A := decode (ccOf k) pc = .ok (.lcmp, ilen (.lcmp))) (n := nx) (m := pc + ilen (.lcmp)) (B := Nat.blt (pidx (.lcmp)) 1000 && chkI k pc (.lcmp) a b t v w) (chkE_at hm)
  obtain ⟨hx0, hi⟩ := and2 hi
  have hx0 : pidx (.lcmp) < 1000 := blt_of hx0
  intro H locs ls hP hS hq hl
  have hs1 : (match (generalizing := false) st with
    | .long y :: .long x :: r => some ((pc + ilen (.lcmp)), lv, .int (lg_cmp x y) :: r, h)
    | _ => none) = some (pc', lv', st', h') := hs
  split at hs1
  · cases hs1
    exact W.lcmp hx hb hd (kk H locs ls hP hS hq hl)
  · cases hs1
theorem st_i2l  (C : CX k p s m args c) (w0 : WS z L xs s) (hw : WF z) (hR : 10 ≤ R.frames ∧ 200 ≤ R.locals ∧ cells ≤ R.cells ∧ slots ≤ R.slots) (hm : (miOf k).1 pc = some (.i2l, nx, a, b, t, v, w)) (hs : pstep layF slenF schF (.i2l, nx, a, b, t, v, w) lv st h = some (pc', lv', st', h')) 
    (kk : StepGoal p l e R s m args below meth c cells slots Q z k L xs pc' lv' st' h') : StepGoal p l e R s m args below meth c cells slots Q z k L xs pc lv st h := by
  obtain ⟨hx, hb, hml, hown, hts⟩ := C
  obtain ⟨hd, rfl, hi⟩ := chk3 (A := decode (ccOf k) pc = .ok (.i2l, ilen (.i2l))) (n := nx) (m := pc + ilen (.i2l)) (B := Nat.blt (pidx (.i2l)) 1000 && chkI k pc (.i2l) a b t v w) (chkE_at hm)
  obtain ⟨hx0, hi⟩ := and2 hi
  have hx0 : pidx (.i2l) < 1000 := blt_of hx0
  intro H locs ls hP hS hq hl
  have hs1 : (match (generalizing := false) st with
    | .int x :: r => some ((pc + ilen (.i2l)), lv, .long x.toInt64 :: r, h)
    | _ => none) = some (pc', lv', st', h') := hs
  split at hs1
  · cases hs1
    exact lv_i2l hx hb hd rfl (kk H locs ls hP hS hq hl)
  · cases hs1
theorem st_l2i  (C : CX k p s m args c) (w0 : WS z L xs s) (hw : WF z) (hR : 10 ≤ R.frames ∧ 200 ≤ R.locals ∧ cells ≤ R.cells ∧ slots ≤ R.slots) (hm : (miOf k).1 pc = some (.l2i, nx, a, b, t, v, w)) (hs : pstep layF slenF schF (.l2i, nx, a, b, t, v, w) lv st h = some (pc', lv', st', h')) 
    (kk : StepGoal p l e R s m args below meth c cells slots Q z k L xs pc' lv' st' h') : StepGoal p l e R s m args below meth c cells slots Q z k L xs pc lv st h := by
  obtain ⟨hx, hb, hml, hown, hts⟩ := C
  obtain ⟨hd, rfl, hi⟩ := chk3 (A := decode (ccOf k) pc = .ok (.l2i, ilen (.l2i))) (n := nx) (m := pc + ilen (.l2i)) (B := Nat.blt (pidx (.l2i)) 1000 && chkI k pc (.l2i) a b t v w) (chkE_at hm)
  obtain ⟨hx0, hi⟩ := and2 hi
  have hx0 : pidx (.l2i) < 1000 := blt_of hx0
  intro H locs ls hP hS hq hl
  have hs1 : (match (generalizing := false) st with
    | .long x :: r => some ((pc + ilen (.l2i)), lv, .int x.toInt32 :: r, h)
    | _ => none) = some (pc', lv', st', h') := hs
  split at hs1
  · cases hs1
    exact lv_l2i hx hb hd rfl (kk H locs ls hP hS hq hl)
  · cases hs1
theorem st_i2b  (C : CX k p s m args c) (w0 : WS z L xs s) (hw : WF z) (hR : 10 ≤ R.frames ∧ 200 ≤ R.locals ∧ cells ≤ R.cells ∧ slots ≤ R.slots) (hm : (miOf k).1 pc = some (.i2b, nx, a, b, t, v, w)) (hs : pstep layF slenF schF (.i2b, nx, a, b, t, v, w) lv st h = some (pc', lv', st', h')) 
    (kk : StepGoal p l e R s m args below meth c cells slots Q z k L xs pc' lv' st' h') : StepGoal p l e R s m args below meth c cells slots Q z k L xs pc lv st h := by
  obtain ⟨hx, hb, hml, hown, hts⟩ := C
  obtain ⟨hd, rfl, hi⟩ := chk3 (A := decode (ccOf k) pc = .ok (.i2b, ilen (.i2b))) (n := nx) (m := pc + ilen (.i2b)) (B := Nat.blt (pidx (.i2b)) 1000 && chkI k pc (.i2b) a b t v w) (chkE_at hm)
  obtain ⟨hx0, hi⟩ := and2 hi
  have hx0 : pidx (.i2b) < 1000 := blt_of hx0
  intro H locs ls hP hS hq hl
  have hs1 : (match (generalizing := false) st with
    | .int x :: r => some ((pc + ilen (.i2b)), lv, .int x.toInt8.toInt32 :: r, h)
    | _ => none) = some (pc', lv', st', h') := hs
  split at hs1
  · cases hs1
    exact lv_i2b hx hb hd rfl (kk H locs ls hP hS hq hl)
  · cases hs1
theorem st_dup  (C : CX k p s m args c) (w0 : WS z L xs s) (hw : WF z) (hR : 10 ≤ R.frames ∧ 200 ≤ R.locals ∧ cells ≤ R.cells ∧ slots ≤ R.slots) (hm : (miOf k).1 pc = some (.dup, nx, a, b, t, v, w)) (hs : pstep layF slenF schF (.dup, nx, a, b, t, v, w) lv st h = some (pc', lv', st', h')) 
    (kk : StepGoal p l e R s m args below meth c cells slots Q z k L xs pc' lv' st' h') : StepGoal p l e R s m args below meth c cells slots Q z k L xs pc lv st h := by
  obtain ⟨hx, hb, hml, hown, hts⟩ := C
  obtain ⟨hd, rfl, hi⟩ := chk3 (A := decode (ccOf k) pc = .ok (.dup, ilen (.dup))) (n := nx) (m := pc + ilen (.dup)) (B := Nat.blt (pidx (.dup)) 1000 && chkI k pc (.dup) a b t v w) (chkE_at hm)
  obtain ⟨hx0, hi⟩ := and2 hi
  have hx0 : pidx (.dup) < 1000 := blt_of hx0
  intro H locs ls hP hS hq hl
  have hs1 : (match (generalizing := false) st with
    | .int x :: r => some ((pc + ilen (.dup)), lv, .int x :: .int x :: r, h)
    | .ref x :: r => some ((pc + ilen (.dup)), lv, .ref x :: .ref x :: r, h)
    | _ => none) = some (pc', lv', st', h') := hs
  split at hs1
  · cases hs1
    exact lv_dup hx hb hd rfl (kk H locs ls hP hS hq hl)
  · cases hs1
    exact lv_dup hx hb hd rfl (kk H locs ls hP hS hq hl)
  · cases hs1
theorem st_dup2  (C : CX k p s m args c) (w0 : WS z L xs s) (hw : WF z) (hR : 10 ≤ R.frames ∧ 200 ≤ R.locals ∧ cells ≤ R.cells ∧ slots ≤ R.slots) (hm : (miOf k).1 pc = some (.dup2, nx, a, b, t, v, w)) (hs : pstep layF slenF schF (.dup2, nx, a, b, t, v, w) lv st h = some (pc', lv', st', h')) 
    (kk : StepGoal p l e R s m args below meth c cells slots Q z k L xs pc' lv' st' h') : StepGoal p l e R s m args below meth c cells slots Q z k L xs pc lv st h := by
  obtain ⟨hx, hb, hml, hown, hts⟩ := C
  obtain ⟨hd, rfl, hi⟩ := chk3 (A := decode (ccOf k) pc = .ok (.dup2, ilen (.dup2))) (n := nx) (m := pc + ilen (.dup2)) (B := Nat.blt (pidx (.dup2)) 1000 && chkI k pc (.dup2) a b t v w) (chkE_at hm)
  obtain ⟨hx0, hi⟩ := and2 hi
  have hx0 : pidx (.dup2) < 1000 := blt_of hx0
  intro H locs ls hP hS hq hl
  have hs1 : (match (generalizing := false) st with
    | .int y :: .ref x :: r => some ((pc + ilen (.dup2)), lv, .int y :: .ref x :: .int y :: .ref x :: r, h)
    | _ => none) = some (pc', lv', st', h') := hs
  split at hs1
  · cases hs1
    exact lv_dup2_11 hx hb hd rfl rfl (kk H locs ls hP hS hq hl)
  · cases hs1
theorem st_pop  (C : CX k p s m args c) (w0 : WS z L xs s) (hw : WF z) (hR : 10 ≤ R.frames ∧ 200 ≤ R.locals ∧ cells ≤ R.cells ∧ slots ≤ R.slots) (hm : (miOf k).1 pc = some (.pop, nx, a, b, t, v, w)) (hs : pstep layF slenF schF (.pop, nx, a, b, t, v, w) lv st h = some (pc', lv', st', h')) 
    (kk : StepGoal p l e R s m args below meth c cells slots Q z k L xs pc' lv' st' h') : StepGoal p l e R s m args below meth c cells slots Q z k L xs pc lv st h := by
  obtain ⟨hx, hb, hml, hown, hts⟩ := C
  obtain ⟨hd, rfl, hi⟩ := chk3 (A := decode (ccOf k) pc = .ok (.pop, ilen (.pop))) (n := nx) (m := pc + ilen (.pop)) (B := Nat.blt (pidx (.pop)) 1000 && chkI k pc (.pop) a b t v w) (chkE_at hm)
  obtain ⟨hx0, hi⟩ := and2 hi
  have hx0 : pidx (.pop) < 1000 := blt_of hx0
  intro H locs ls hP hS hq hl
  have hs1 : (match (generalizing := false) st with
    | .int _ :: r => some ((pc + ilen (.pop)), lv, r, h)
    | _ => none) = some (pc', lv', st', h') := hs
  split at hs1
  · cases hs1
    exact lv_pop hx hb hd rfl (kk H locs ls hP hS hq hl)
  · cases hs1
theorem st_goto {o : Int} (C : CX k p s m args c) (w0 : WS z L xs s) (hw : WF z) (hR : 10 ≤ R.frames ∧ 200 ≤ R.locals ∧ cells ≤ R.cells ∧ slots ≤ R.slots) (hm : (miOf k).1 pc = some ((.goto o), nx, a, b, t, v, w)) (hs : pstep layF slenF schF ((.goto o), nx, a, b, t, v, w) lv st h = some (pc', lv', st', h')) 
    (kk : StepGoal p l e R s m args below meth c cells slots Q z k L xs pc' lv' st' h') : StepGoal p l e R s m args below meth c cells slots Q z k L xs pc lv st h := by
  obtain ⟨hx, hb, hml, hown, hts⟩ := C
  obtain ⟨hd, rfl, hi⟩ := chk3 (A := decode (ccOf k) pc = .ok ((.goto o), ilen ((.goto o)))) (n := nx) (m := pc + ilen ((.goto o))) (B := Nat.blt (pidx ((.goto o))) 1000 && chkI k pc ((.goto o)) a b t v w) (chkE_at hm)
  obtain ⟨hx0, hi⟩ := and2 hi
  have hx0 : pidx ((.goto o)) < 1000 := blt_of hx0
  intro H locs ls hP hS hq hl
  have hs1 : (some (a, lv, st, h)) = some (pc', lv', st', h') := hs
  cases hs1
  exact lv_goto hx hb hd (of_decide_eq_true hi) (kk H locs ls hP hS hq hl)
theorem st_ifnull {o : Int} (C : CX k p s m args c) (w0 : WS z L xs s) (hw : WF z) (hR : 10 ≤ R.frames ∧ 200 ≤ R.locals ∧ cells ≤ R.cells ∧ slots ≤ R.slots) (hm : (miOf k).1 pc = some ((.ifnull o), nx, a, b, t, v, w)) (hs : pstep layF slenF schF ((.ifnull o), nx, a, b, t, v, w) lv st h = some (pc', lv', st', h')) 
    (kk : StepGoal p l e R s m args below meth c cells slots Q z k L xs pc' lv' st' h') : StepGoal p l e R s m args below meth c cells slots Q z k L xs pc lv st h := by
  obtain ⟨hx, hb, hml, hown, hts⟩ := C
  obtain ⟨hd, rfl, hi⟩ := chk3 (A := decode (ccOf k) pc = .ok ((.ifnull o), ilen ((.ifnull o)))) (n := nx) (m := pc + ilen ((.ifnull o))) (B := Nat.blt (pidx ((.ifnull o))) 1000 && chkI k pc ((.ifnull o)) a b t v w) (chkE_at hm)
  obtain ⟨hx0, hi⟩ := and2 hi
  have hx0 : pidx ((.ifnull o)) < 1000 := blt_of hx0
  intro H locs ls hP hS hq hl
  have hs1 : (match (generalizing := false) st with
    | .ref _ :: r => some ((pc + ilen ((.ifnull o))), lv, r, h)
    | _ => none) = some (pc', lv', st', h') := hs
  split at hs1
  · cases hs1
    exact lv_ifnull hx hb hd (kk H locs ls hP hS hq hl)
  · cases hs1
theorem st_if_eq {o : Int} (C : CX k p s m args c) (w0 : WS z L xs s) (hw : WF z) (hR : 10 ≤ R.frames ∧ 200 ≤ R.locals ∧ cells ≤ R.cells ∧ slots ≤ R.slots) (hm : (miOf k).1 pc = some ((.ifCond .eq o), nx, a, b, t, v, w)) (hs : pstep layF slenF schF ((.ifCond .eq o), nx, a, b, t, v, w) lv st h = some (pc', lv', st', h')) 
    (kk : StepGoal p l e R s m args below meth c cells slots Q z k L xs pc' lv' st' h') : StepGoal p l e R s m args below meth c cells slots Q z k L xs pc lv st h := by
  obtain ⟨hx, hb, hml, hown, hts⟩ := C
  obtain ⟨hd, rfl, hi⟩ := chk3 (A := decode (ccOf k) pc = .ok ((.ifCond .eq o), ilen ((.ifCond .eq o)))) (n := nx) (m := pc + ilen ((.ifCond .eq o))) (B := Nat.blt (pidx ((.ifCond .eq o))) 1000 && chkI k pc ((.ifCond .eq o)) a b t v w) (chkE_at hm)
  obtain ⟨hx0, hi⟩ := and2 hi
  have hx0 : pidx ((.ifCond .eq o)) < 1000 := blt_of hx0
  intro H locs ls hP hS hq hl
  have hs1 : (match (generalizing := false) st with
    | .int x :: r => if x = 0 then some (a, lv, r, h) else some ((pc + ilen ((.ifCond .eq o))), lv, r, h)
    | _ => none) = some (pc', lv', st', h') := hs
  split at hs1
  · rename_i x r
    by_cases q : x = 0
    · rw [if_pos q] at hs1
      cases hs1
      exact lv_if_eq hx hb hd (of_decide_eq_true hi) (fun _ => (kk H locs ls hP hS hq hl)) (fun q2 => absurd q q2)
    · rw [if_neg q] at hs1
      cases hs1
      exact lv_if_eq hx hb hd (of_decide_eq_true hi) (fun q2 => absurd q2 q) (fun _ => (kk H locs ls hP hS hq hl))
  · cases hs1
theorem st_icmp_eq {o : Int} (C : CX k p s m args c) (w0 : WS z L xs s) (hw : WF z) (hR : 10 ≤ R.frames ∧ 200 ≤ R.locals ∧ cells ≤ R.cells ∧ slots ≤ R.slots) (hm : (miOf k).1 pc = some ((.if_icmp .eq o), nx, a, b, t, v, w)) (hs : pstep layF slenF schF ((.if_icmp .eq o), nx, a, b, t, v, w) lv st h = some (pc', lv', st', h')) 
    (kk : StepGoal p l e R s m args below meth c cells slots Q z k L xs pc' lv' st' h') : StepGoal p l e R s m args below meth c cells slots Q z k L xs pc lv st h := by
  obtain ⟨hx, hb, hml, hown, hts⟩ := C
  obtain ⟨hd, rfl, hi⟩ := chk3 (A := decode (ccOf k) pc = .ok ((.if_icmp .eq o), ilen ((.if_icmp .eq o)))) (n := nx) (m := pc + ilen ((.if_icmp .eq o))) (B := Nat.blt (pidx ((.if_icmp .eq o))) 1000 && chkI k pc ((.if_icmp .eq o)) a b t v w) (chkE_at hm)
  obtain ⟨hx0, hi⟩ := and2 hi
  have hx0 : pidx ((.if_icmp .eq o)) < 1000 := blt_of hx0
  intro H locs ls hP hS hq hl
  have hs1 : (match (generalizing := false) st with
    | .int y :: .int x :: r => if x = y then some (a, lv, r, h) else some ((pc + ilen ((.if_icmp .eq o))), lv, r, h)
    | _ => none) = some (pc', lv', st', h') := hs
  split at hs1
  · rename_i y x r
    by_cases q : x = y
    · rw [if_pos q] at hs1
      cases hs1
      exact lv_icmp_eq hx hb hd (of_decide_eq_true hi) (fun _ => (kk H locs ls hP hS hq hl)) (fun q2 => absurd q q2)
    · rw [if_neg q] at hs1
      cases hs1
      exact lv_icmp_eq hx hb hd (of_decide_eq_true hi) (fun q2 => absurd q2 q) (fun _ => (kk H locs ls hP hS hq hl))
  · cases hs1
theorem st_if_ne {o : Int} (C : CX k p s m args c) (w0 : WS z L xs s) (hw : WF z) (hR : 10 ≤ R.frames ∧ 200 ≤ R.locals ∧ cells ≤ R.cells ∧ slots ≤ R.slots) (hm : (miOf k).1 pc = some ((.ifCond .ne o), nx, a, b, t, v, w)) (hs : pstep layF slenF schF ((.ifCond .ne o), nx, a, b, t, v, w) lv st h = some (pc', lv', st', h')) 
    (kk : StepGoal p l e R s m args below meth c cells slots Q z k L xs pc' lv' st' h') : StepGoal p l e R s m args below meth c cells slots Q z k L xs pc lv st h := by
  obtain ⟨hx, hb, hml, hown, hts⟩ := C
  obtain ⟨hd, rfl, hi⟩ := chk3 (A := decode (ccOf k) pc = .ok ((.ifCond .ne o), ilen ((.ifCond .ne o)))) (n := nx) (m := pc + ilen ((.ifCond .ne o))) (B := Nat.blt (pidx ((.ifCond .ne o))) 1000 && chkI k pc ((.ifCond .ne o)) a b t v w) (chkE_at hm)
  obtain ⟨hx0, hi⟩ := and2 hi
  have hx0 : pidx ((.ifCond .ne o)) < 1000 := blt_of hx0
  intro H locs ls hP hS hq hl
  have hs1 : (match (generalizing := false) st with
    | .int x :: r => if ¬ x = 0 then some (a, lv, r, h) else some ((pc + ilen ((.ifCond .ne o))), lv, r, h)
    | _ => none) = some (pc', lv', st', h') := hs
  split at hs1
  · rename_i x r
    by_cases q : ¬ x = 0
    · rw [if_pos q] at hs1
      cases hs1
      exact lv_if_ne hx hb hd (of_decide_eq_true hi) (fun _ => (kk H locs ls hP hS hq hl)) (fun q2 => absurd q2 q)
    · rw [if_neg q] at hs1
      cases hs1
      exact lv_if_ne hx hb hd (of_decide_eq_true hi) (fun q2 => absurd q2 q) (fun _ => (kk H locs ls hP hS hq hl))
  · cases hs1
theorem st_icmp_ne {o : Int} (C : CX k p s m args c) (w0 : WS z L xs s) (hw : WF z) (hR : 10 ≤ R.frames ∧ 200 ≤ R.locals ∧ cells ≤ R.cells ∧ slots ≤ R.slots) (hm : (miOf k).1 pc = some ((.if_icmp .ne o), nx, a, b, t, v, w)) (hs : pstep layF slenF schF ((.if_icmp .ne o), nx, a, b, t, v, w) lv st h = some (pc', lv', st', h')) 
    (kk : StepGoal p l e R s m args below meth c cells slots Q z k L xs pc' lv' st' h') : StepGoal p l e R s m args below meth c cells slots Q z k L xs pc lv st h := by
  obtain ⟨hx, hb, hml, hown, hts⟩ := C
  obtain ⟨hd, rfl, hi⟩ := chk3 (A := decode (ccOf k) pc = .ok ((.if_icmp .ne o), ilen ((.if_icmp .ne o)))) (n := nx) (m := pc + ilen ((.if_icmp .ne o))) (B := Nat.blt (pidx ((.if_icmp .ne o))) 1000 && chkI k pc ((.if_icmp .ne o)) a b t v w) (chkE_at hm)
  obtain ⟨hx0, hi⟩ := and2 hi
  have hx0 : pidx ((.if_icmp .ne o)) < 1000 := blt_of hx0
  intro H locs ls hP hS hq hl
  have hs1 : (match (generalizing := false) st with
    | .int y :: .int x :: r => if ¬ x = y then some (a, lv, r, h) else some ((pc + ilen ((.if_icmp .ne o))), lv, r, h)
    | _ => none) = some (pc', lv', st', h') := hs
  split at hs1
  · rename_i y x r
    by_cases q : ¬ x = y
    · rw [if_pos q] at hs1
      cases hs1
      exact lv_icmp_ne hx hb hd (of_decide_eq_true hi) (fun _ => (kk H locs ls hP hS hq hl)) (fun q2 => absurd q2 q)
    · rw [if_neg q] at hs1
      cases hs1
      exact lv_icmp_ne hx hb hd (of_decide_eq_true hi) (fun q2 => absurd q2 q) (fun _ => (kk H locs ls hP hS hq hl))
  · cases hs1
theorem st_if_lt {o : Int} (C : CX k p s m args c) (w0 : WS z L xs s) (hw : WF z) (hR : 10 ≤ R.frames ∧ 200 ≤ R.locals ∧ cells ≤ R.cells ∧ slots ≤ R.slots) (hm : (miOf k).1 pc = some ((.ifCond .lt o), nx, a, b, t, v, w)) (hs : pstep layF slenF schF ((.ifCond .lt o), nx, a, b, t, v, w) lv st h = some (pc', lv', st', h')) 
    (kk : StepGoal p l e R s m args below meth c cells slots Q z k L xs pc' lv' st' h') : StepGoal p l e R s m args below meth c cells slots Q z k L xs pc lv st h := by
  obtain ⟨hx, hb, hml, hown, hts⟩ := C
  obtain ⟨hd, rfl, hi⟩ := chk3 (A := decode (ccOf k) pc = .ok ((.ifCond .lt o), ilen ((.ifCond .lt o)))) (n := nx) (m := pc + ilen ((.ifCond .lt o))) (B := Nat.blt (pidx ((.ifCond .lt o))) 1000 && chkI k pc ((.ifCond .lt o)) a b t v w) (chkE_at hm)
  obtain ⟨hx0, hi⟩ := and2 hi
  have hx0 : pidx ((.ifCond .lt o)) < 1000 := blt_of hx0
  intro H locs ls hP hS hq hl
  have hs1 : (match (generalizing := false) st with
    | .int x :: r => if x < 0 then some (a, lv, r, h) else some ((pc + ilen ((.ifCond .lt o))), lv, r, h)
    | _ => none) = some (pc', lv', st', h') := hs
  split at hs1
  · rename_i x r
    by_cases q : x < 0
    · rw [if_pos q] at hs1
      cases hs1
      exact lv_if_lt hx hb hd (of_decide_eq_true hi) (fun _ => (kk H locs ls hP hS hq hl)) (fun q2 => absurd q q2)
    · rw [if_neg q] at hs1
      cases hs1
      exact lv_if_lt hx hb hd (of_decide_eq_true hi) (fun q2 => absurd q2 q) (fun _ => (kk H locs ls hP hS hq hl))
  · cases hs1
theorem st_icmp_lt {o : Int} (C : CX k p s m args c) (w0 : WS z L xs s) (hw : WF z) (hR : 10 ≤ R.frames ∧ 200 ≤ R.locals ∧ cells ≤ R.cells ∧ slots ≤ R.slots) (hm : (miOf k).1 pc = some ((.if_icmp .lt o), nx, a, b, t, v, w)) (hs : pstep layF slenF schF ((.if_icmp .lt o), nx, a, b, t, v, w) lv st h = some (pc', lv', st', h')) 
    (kk : StepGoal p l e R s m args below meth c cells slots Q z k L xs pc' lv' st' h') : StepGoal p l e R s m args below meth c cells slots Q z k L xs pc lv st h := by
  obtain ⟨hx, hb, hml, hown, hts⟩ := C
  obtain ⟨hd, rfl, hi⟩ := chk3 (A := decode (ccOf k) pc = .ok ((.if_icmp .lt o), ilen ((.if_icmp .lt o)))) (n := nx) (m := pc + ilen ((.if_icmp .lt o))) (B := Nat.blt (pidx ((.if_icmp .lt o))) 1000 && chkI k pc ((.if_icmp .lt o)) a b t v w) (chkE_at hm)
  obtain ⟨hx0, hi⟩ := and2 hi
  have hx0 : pidx ((.if_icmp .lt o)) < 1000 := blt_of hx0
  intro H locs ls hP hS hq hl
  have hs1 : (match (generalizing := false) st with
    | .int y :: .int x :: r => if x < y then some (a, lv, r, h) else some ((pc + ilen ((.if_icmp .lt o))), lv, r, h)
    | _ => none) = some (pc', lv', st', h') := hs
  split at hs1
  · rename_i y x r
    by_cases q : x < y
    · rw [if_pos q] at hs1
      cases hs1
      exact lv_icmp_lt hx hb hd (of_decide_eq_true hi) (fun _ => (kk H locs ls hP hS hq hl)) (fun q2 => absurd q q2)
    · rw [if_neg q] at hs1
      cases hs1
      exact lv_icmp_lt hx hb hd (of_decide_eq_true hi) (fun q2 => absurd q2 q) (fun _ => (kk H locs ls hP hS hq hl))
  · cases hs1
theorem st_if_ge {o : Int} (C : CX k p s m args c) (w0 : WS z L xs s) (hw : WF z) (hR : 10 ≤ R.frames ∧ 200 ≤ R.locals ∧ cells ≤ R.cells ∧ slots ≤ R.slots) (hm : (miOf k).1 pc = some ((.ifCond .ge o), nx, a, b, t, v, w)) (hs : pstep layF slenF schF ((.ifCond .ge o), nx, a, b, t, v, w) lv st h = some (pc', lv', st', h')) 
    (kk : StepGoal p l e R s m args below meth c cells slots Q z k L xs pc' lv' st' h') : StepGoal p l e R s m args below meth c cells slots Q z k L xs pc lv st h := by
  obtain ⟨hx, hb, hml, hown, hts⟩ := C
  obtain ⟨hd, rfl, hi⟩ := chk3 (A := decode (ccOf k) pc = .ok ((.ifCond .ge o), ilen ((.ifCond .ge o)))) (n := nx) (m := pc + ilen ((.ifCond .ge o))) (B := Nat.blt (pidx ((.ifCond .ge o))) 1000 && chkI k pc ((.ifCond .ge o)) a b t v w) (chkE_at hm)
  obtain ⟨hx0, hi⟩ := and2 hi
  have hx0 : pidx ((.ifCond .ge o)) < 1000 := blt_of hx0
  intro H locs ls hP hS hq hl
  have hs1 : (match (generalizing := false) st with
    | .int x :: r => if 0 ≤ x then some (a, lv, r, h) else some ((pc + ilen ((.ifCond .ge o))), lv, r, h)
    | _ => none) = some (pc', lv', st', h') := hs
  split at hs1
  · rename_i x r
    by_cases q : 0 ≤ x
    · rw [if_pos q] at hs1
      cases hs1
      exact lv_if_ge hx hb hd (of_decide_eq_true hi) (fun _ => (kk H locs ls hP hS hq hl)) (fun q2 => absurd q q2)
    · rw [if_neg q] at hs1
      cases hs1
      exact lv_if_ge hx hb hd (of_decide_eq_true hi) (fun q2 => absurd q2 q) (fun _ => (kk H locs ls hP hS hq hl))
  · cases hs1
theorem st_icmp_ge {o : Int} (C : CX k p s m args c) (w0 : WS z L xs s) (hw : WF z) (hR : 10 ≤ R.frames ∧ 200 ≤ R.locals ∧ cells ≤ R.cells ∧ slots ≤ R.slots) (hm : (miOf k).1 pc = some ((.if_icmp .ge o), nx, a, b, t, v, w)) (hs : pstep layF slenF schF ((.if_icmp .ge o), nx, a, b, t, v, w) lv st h = some (pc', lv', st', h')) 
    (kk : StepGoal p l e R s m args below meth c cells slots Q z k L xs pc' lv' st' h') : StepGoal p l e R s m args below meth c cells slots Q z k L xs pc lv st h := by
  obtain ⟨hx, hb, hml, hown, hts⟩ := C
  obtain ⟨hd, rfl, hi⟩ := chk3 (A := decode (ccOf k) pc = .ok ((.if_icmp .ge o), ilen ((.if_icmp .ge o)))) (n := nx) (m := pc + ilen ((.if_icmp .ge o))) (B := Nat.blt (pidx ((.if_icmp .ge o))) 1000 && chkI k pc ((.if_icmp .ge o)) a b t v w) (chkE_at hm)
  obtain ⟨hx0, hi⟩ := and2 hi
  have hx0 : pidx ((.if_icmp .ge o)) < 1000 := blt_of hx0
  intro H locs ls hP hS hq hl
  have hs1 : (match (generalizing := false) st with
    | .int y :: .int x :: r => if y ≤ x then some (a, lv, r, h) else some ((pc + ilen ((.if_icmp .ge o))), lv, r, h)
    | _ => none) = some (pc', lv', st', h') := hs
  split at hs1
  · rename_i y x r
    by_cases q : y ≤ x
    · rw [if_pos q] at hs1
      cases hs1
      exact lv_icmp_ge hx hb hd (of_decide_eq_true hi) (fun _ => (kk H locs ls hP hS hq hl)) (fun q2 => absurd q q2)
    · rw [if_neg q] at hs1
      cases hs1
      exact lv_icmp_ge hx hb hd (of_decide_eq_true hi) (fun q2 => absurd q2 q) (fun _ => (kk H locs ls hP hS hq hl))
  · cases hs1
theorem st_if_gt {o : Int} (C : CX k p s m args c) (w0 : WS z L xs s) (hw : WF z) (hR : 10 ≤ R.frames ∧ 200 ≤ R.locals ∧ cells ≤ R.cells ∧ slots ≤ R.slots) (hm : (miOf k).1 pc = some ((.ifCond .gt o), nx, a, b, t, v, w)) (hs : pstep layF slenF schF ((.ifCond .gt o), nx, a, b, t, v, w) lv st h = some (pc', lv', st', h')) 
    (kk : StepGoal p l e R s m args below meth c cells slots Q z k L xs pc' lv' st' h') : StepGoal p l e R s m args below meth c cells slots Q z k L xs pc lv st h := by
  obtain ⟨hx, hb, hml, hown, hts⟩ := C
  obtain ⟨hd, rfl, hi⟩ := chk3 (A := decode (ccOf k) pc = .ok ((.ifCond .gt o), ilen ((.ifCond .gt o)))) (n := nx) (m := pc + ilen ((.ifCond .gt o))) (B := Nat.blt (pidx ((.ifCond .gt o))) 1000 && chkI k pc ((.ifCond .gt o)) a b t v w) (chkE_at hm)
  obtain ⟨hx0, hi⟩ := and2 hi
  have hx0 : pidx ((.ifCond .gt o)) < 1000 := blt_of hx0
  intro H locs ls hP hS hq hl
  have hs1 : (match (generalizing := false) st with
    | .int x :: r => if 0 < x then some (a, lv, r, h) else some ((pc + ilen ((.ifCond .gt o))), lv, r, h)
    | _ => none) = some (pc', lv', st', h') := hs
  split at hs1
  · rename_i x r
    by_cases q : 0 < x
    · rw [if_pos q] at hs1
      cases hs1
      exact lv_if_gt hx hb hd (of_decide_eq_true hi) (fun _ => (kk H locs ls hP hS hq hl)) (fun q2 => absurd q q2)
    · rw [if_neg q] at hs1
      cases hs1
      exact lv_if_gt hx hb hd (of_decide_eq_true hi) (fun q2 => absurd q2 q) (fun _ => (kk H locs ls hP hS hq hl))
  · cases hs1
theorem st_icmp_gt {o : Int} (C : CX k p s m args c) (w0 : WS z L xs s) (hw : WF z) (hR : 10 ≤ R.frames ∧ 200 ≤ R.locals ∧ cells ≤ R.cells ∧ slots ≤ R.slots) (hm : (miOf k).1 pc = some ((.if_icmp .gt o), nx, a, b, t, v, w)) (hs : pstep layF slenF schF ((.if_icmp .gt o), nx, a, b, t, v, w) lv st h = some (pc', lv', st', h')) 
    (kk : StepGoal p l e R s m args below meth c cells slots Q z k L xs pc' lv' st' h') : StepGoal p l e R s m args below meth c cells slots Q z k L xs pc lv st h := by
  obtain ⟨hx, hb, hml, hown, hts⟩ := C
  obtain ⟨hd, rfl, hi⟩ := chk3 (A := decode (ccOf k) pc = .ok ((.if_icmp .gt o), ilen ((.if_icmp .gt o)))) (n := nx) (m := pc + ilen ((.if_icmp .gt o))) (B := Nat.blt (pidx ((.if_icmp .gt o))) 1000 && chkI k pc ((.if_icmp .gt o)) a b t v w) (chkE_at hm)
  obtain ⟨hx0, hi⟩ := and2 hi
  have hx0 : pidx ((.if_icmp .gt o)) < 1000 := blt_of hx0
  intro H locs ls hP hS hq hl
  have hs1 : (match (generalizing := false) st with
    | .int y :: .int x :: r => if y < x then some (a, lv, r, h) else some ((pc + ilen ((.if_icmp .gt o))), lv, r, h)
    | _ => none) = some (pc', lv', st', h') := hs
  split at hs1
  · rename_i y x r
    by_cases q : y < x
    · rw [if_pos q] at hs1
      cases hs1
      exact lv_icmp_gt hx hb hd (of_decide_eq_true hi) (fun _ => (kk H locs ls hP hS hq hl)) (fun q2 => absurd q q2)
    · rw [if_neg q] at hs1
      cases hs1
      exact lv_icmp_gt hx hb hd (of_decide_eq_true hi) (fun q2 => absurd q2 q) (fun _ => (kk H locs ls hP hS hq hl))
  · cases hs1
theorem st_if_le {o : Int} (C : CX k p s m args c) (w0 : WS z L xs s) (hw : WF z) (hR : 10 ≤ R.frames ∧ 200 ≤ R.locals ∧ cells ≤ R.cells ∧ slots ≤ R.slots) (hm : (miOf k).1 pc = some ((.ifCond .le o), nx, a, b, t, v, w)) (hs : pstep layF slenF schF ((.ifCond .le o), nx, a, b, t, v, w) lv st h = some (pc', lv', st', h')) 
    (kk : StepGoal p l e R s m args below meth c cells slots Q z k L xs pc' lv' st' h') : StepGoal p l e R s m args below meth c cells slots Q z k L xs pc lv st h := by
  obtain ⟨hx, hb, hml, hown, hts⟩ := C
  obtain ⟨hd, rfl, hi⟩ := chk3 (A := decode (ccOf k) pc = .ok ((.ifCond .le o), ilen ((.ifCond .le o)))) (n := nx) (m := pc + ilen ((.ifCond .le o))) (B := Nat.blt (pidx ((.ifCond .le o))) 1000 && chkI k pc ((.ifCond .le o)) a b t v w) (chkE_at hm)
  obtain ⟨hx0, hi⟩ := and2 hi
  have hx0 : pidx ((.ifCond .le o)) < 1000 := blt_of hx0
  intro H locs ls hP hS hq hl
  have hs1 : (match (generalizing := false) st with
    | .int x :: r => if x ≤ 0 then some (a, lv, r, h) else some ((pc + ilen ((.ifCond .le o))), lv, r, h)
    | _ => none) = some (pc', lv', st', h') := hs
  split at hs1
  · rename_i x r
    by_cases q : x ≤ 0
    · rw [if_pos q] at hs1
      cases hs1
      exact lv_if_le hx hb hd (of_decide_eq_true hi) (fun _ => (kk H locs ls hP hS hq hl)) (fun q2 => absurd q q2)
    · rw [if_neg q] at hs1
      cases hs1
      exact lv_if_le hx hb hd (of_decide_eq_true hi) (fun q2 => absurd q2 q) (fun _ => (kk H locs ls hP hS hq hl))
  · cases hs1
theorem st_icmp_le {o : Int} (C : CX k p s m args c) (w0 : WS z L xs s) (hw : WF z) (hR : 10 ≤ R.frames ∧ 200 ≤ R.locals ∧ cells ≤ R.cells ∧ slots ≤ R.slots) (hm : (miOf k).1 pc = some ((.if_icmp .le o), nx, a, b, t, v, w)) (hs : pstep layF slenF schF ((.if_icmp .le o), nx, a, b, t, v, w) lv st h = some (pc', lv', st', h')) 
    (kk : StepGoal p l e R s m args below meth c cells slots Q z k L xs pc' lv' st' h') : StepGoal p l e R s m args below meth c cells slots Q z k L xs pc lv st h := by
  obtain ⟨hx, hb, hml, hown, hts⟩ := C
  obtain ⟨hd, rfl, hi⟩ := chk3 (A := decode (ccOf k) pc = .ok ((.if_icmp .le o), ilen ((.if_icmp .le o)))) (n := nx) (m := pc + ilen ((.if_icmp .le o))) (B := Nat.blt (pidx ((.if_icmp .le o))) 1000 && chkI k pc ((.if_icmp .le o)) a b t v w) (chkE_at hm)
  obtain ⟨hx0, hi⟩ := and2 hi
  have hx0 : pidx ((.if_icmp .le o)) < 1000 := blt_of hx0
  intro H locs ls hP hS hq hl
  have hs1 : (match (generalizing := false) st with
    | .int y :: .int x :: r => if x ≤ y then some (a, lv, r, h) else some ((pc + ilen ((.if_icmp .le o))), lv, r, h)
    | _ => none) = some (pc', lv', st', h') := hs
  split at hs1
  · rename_i y x r
    by_cases q : x ≤ y
    · rw [if_pos q] at hs1
      cases hs1
      exact lv_icmp_le hx hb hd (of_decide_eq_true hi) (fun _ => (kk H locs ls hP hS hq hl)) (fun q2 => absurd q q2)
    · rw [if_neg q] at hs1
      cases hs1
      exact lv_icmp_le hx hb hd (of_decide_eq_true hi) (fun q2 => absurd q2 q) (fun _ => (kk H locs ls hP hS hq hl))
  · cases hs1
theorem st_iconst {n : Int} (C : CX k p s m args c) (w0 : WS z L xs s) (hw : WF z) (hR : 10 ≤ R.frames ∧ 200 ≤ R.locals ∧ cells ≤ R.cells ∧ slots ≤ R.slots) (hm : (miOf k).1 pc = some ((.iconst n), nx, a, b, t, v, w)) (hs : pstep layF slenF schF ((.iconst n), nx, a, b, t, v, w) lv st h = some (pc', lv', st', h')) 
    (kk : StepGoal p l e R s m args below meth c cells slots Q z k L xs pc' lv' st' h') : StepGoal p l e R s m args below meth c cells slots Q z k L xs pc lv st h := by
  obtain ⟨hx, hb, hml, hown, hts⟩ := C
  obtain ⟨hd, rfl, hi⟩ := chk3 (A := decode (ccOf k) pc = .ok ((.iconst n), ilen ((.iconst n)))) (n := nx) (m := pc + ilen ((.iconst n))) (B := Nat.blt (pidx ((.iconst n))) 1000 && chkI k pc ((.iconst n)) a b t v w) (chkE_at hm)
  obtain ⟨hx0, hi⟩ := and2 hi
  have hx0 : pidx ((.iconst n)) < 1000 := blt_of hx0
  intro H locs ls hP hS hq hl
  have hs1 : (some ((pc + ilen ((.iconst n))), lv, .int v :: st, h)) = some (pc', lv', st', h') := hs
  cases hs1
  exact lv_iconst hx hb hd (of_decide_eq_true hi) (kk H locs ls hP hS hq hl)
theorem st_bipush {n : Int} (C : CX k p s m args c) (w0 : WS z L xs s) (hw : WF z) (hR : 10 ≤ R.frames ∧ 200 ≤ R.locals ∧ cells ≤ R.cells ∧ slots ≤ R.slots) (hm : (miOf k).1 pc = some ((.bipush n), nx, a, b, t, v, w)) (hs : pstep layF slenF schF ((.bipush n), nx, a, b, t, v, w) lv st h = some (pc', lv', st', h')) 
    (kk : StepGoal p l e R s m args below meth c cells slots Q z k L xs pc' lv' st' h') : StepGoal p l e R s m args below meth c cells slots Q z k L xs pc lv st h := by
  obtain ⟨hx, hb, hml, hown, hts⟩ := C
  obtain ⟨hd, rfl, hi⟩ := chk3 (A := decode (ccOf k) pc = .ok ((.bipush n), ilen ((.bipush n)))) (n := nx) (m := pc + ilen ((.bipush n))) (B := Nat.blt (pidx ((.bipush n))) 1000 && chkI k pc ((.bipush n)) a b t v w) (chkE_at hm)
  obtain ⟨hx0, hi⟩ := and2 hi
  have hx0 : pidx ((.bipush n)) < 1000 := blt_of hx0
  intro H locs ls hP hS hq hl
  have hs1 : (some ((pc + ilen ((.bipush n))), lv, .int v :: st, h)) = some (pc', lv', st', h') := hs
  cases hs1
  exact lv_bipush hx hb hd (of_decide_eq_true hi) (kk H locs ls hP hS hq hl)
theorem st_sipush {n : Int} (C : CX k p s m args c) (w0 : WS z L xs s) (hw : WF z) (hR : 10 ≤ R.frames ∧ 200 ≤ R.locals ∧ cells ≤ R.cells ∧ slots ≤ R.slots) (hm : (miOf k).1 pc = some ((.sipush n), nx, a, b, t, v, w)) (hs : pstep layF slenF schF ((.sipush n), nx, a, b, t, v, w) lv st h = some (pc', lv', st', h')) 
    (kk : StepGoal p l e R s m args below meth c cells slots Q z k L xs pc' lv' st' h') : StepGoal p l e R s m args below meth c cells slots Q z k L xs pc lv st h := by
  obtain ⟨hx, hb, hml, hown, hts⟩ := C
  obtain ⟨hd, rfl, hi⟩ := chk3 (A := decode (ccOf k) pc = .ok ((.sipush n), ilen ((.sipush n)))) (n := nx) (m := pc + ilen ((.sipush n))) (B := Nat.blt (pidx ((.sipush n))) 1000 && chkI k pc ((.sipush n)) a b t v w) (chkE_at hm)
  obtain ⟨hx0, hi⟩ := and2 hi
  have hx0 : pidx ((.sipush n)) < 1000 := blt_of hx0
  intro H locs ls hP hS hq hl
  have hs1 : (some ((pc + ilen ((.sipush n))), lv, .int v :: st, h)) = some (pc', lv', st', h') := hs
  cases hs1
  exact lv_sipush hx hb hd (of_decide_eq_true hi) (kk H locs ls hP hS hq hl)
theorem st_lconst {n : Fin 2} (C : CX k p s m args c) (w0 : WS z L xs s) (hw : WF z) (hR : 10 ≤ R.frames ∧ 200 ≤ R.locals ∧ cells ≤ R.cells ∧ slots ≤ R.slots) (hm : (miOf k).1 pc = some ((.lconst n), nx, a, b, t, v, w)) (hs : pstep layF slenF schF ((.lconst n), nx, a, b, t, v, w) lv st h = some (pc', lv', st', h')) 
    (kk : StepGoal p l e R s m args below meth c cells slots Q z k L xs pc' lv' st' h') : StepGoal p l e R s m args below meth c cells slots Q z k L xs pc lv st h := by
  obtain ⟨hx, hb, hml, hown, hts⟩ := C
  obtain ⟨hd, rfl, hi⟩ := chk3 (A := decode (ccOf k) pc = .ok ((.lconst n), ilen ((.lconst n)))) (n := nx) (m := pc + ilen ((.lconst n))) (B := Nat.blt (pidx ((.lconst n))) 1000 && chkI k pc ((.lconst n)) a b t v w) (chkE_at hm)
  obtain ⟨hx0, hi⟩ := and2 hi
  have hx0 : pidx ((.lconst n)) < 1000 := blt_of hx0
  intro H locs ls hP hS hq hl
  have hs1 : (some ((pc + ilen ((.lconst n))), lv, .long w :: st, h)) = some (pc', lv', st', h') := hs
  cases hs1
  exact lv_lconst hx hb hd (of_decide_eq_true hi) (kk H locs ls hP hS hq hl)
theorem st_iload_n {n : Fin 4} (C : CX k p s m args c) (w0 : WS z L xs s) (hw : WF z) (hR : 10 ≤ R.frames ∧ 200 ≤ R.locals ∧ cells ≤ R.cells ∧ slots ≤ R.slots) (hm : (miOf k).1 pc = some ((.iload_n n), nx, a, b, t, v, w)) (hs : pstep layF slenF schF ((.iload_n n), nx, a, b, t, v, w) lv st h = some (pc', lv', st', h')) 
    (kk : StepGoal p l e R s m args below meth c cells slots Q z k L xs pc' lv' st' h') : StepGoal p l e R s m args below meth c cells slots Q z k L xs pc lv st h := by
  obtain ⟨hx, hb, hml, hown, hts⟩ := C
  obtain ⟨hd, rfl, hi⟩ := chk3 (A := decode (ccOf k) pc = .ok ((.iload_n n), ilen ((.iload_n n)))) (n := nx) (m := pc + ilen ((.iload_n n))) (B := Nat.blt (pidx ((.iload_n n))) 1000 && chkI k pc ((.iload_n n)) a b t v w) (chkE_at hm)
  obtain ⟨hx0, hi⟩ := and2 hi
  have hx0 : pidx ((.iload_n n)) < 1000 := blt_of hx0
  intro H locs ls hP hS hq hl
  have hs1 : (match (generalizing := false) lgo lv a with
    | some (.int x) => some ((pc + ilen ((.iload_n n))), lv, .int x :: st, h)
    | _ => none) = some (pc', lv', st', h') := hs
  split at hs1
  · rename_i x heq
    cases hs1
    exact lv_iload_n hx hb hd (Nat.eq_of_beq_eq_true hi) (hl.2.2 a _ heq) (kk H locs ls hP hS hq hl)
  · cases hs1
theorem st_iload {j : Nat} (C : CX k p s m args c) (w0 : WS z L xs s) (hw : WF z) (hR : 10 ≤ R.frames ∧ 200 ≤ R.locals ∧ cells ≤ R.cells ∧ slots ≤ R.slots) (hm : (miOf k).1 pc = some ((.iload j), nx, a, b, t, v, w)) (hs : pstep layF slenF schF ((.iload j), nx, a, b, t, v, w) lv st h = some (pc', lv', st', h')) 
    (kk : StepGoal p l e R s m args below meth c cells slots Q z k L xs pc' lv' st' h') : StepGoal p l e R s m args below meth c cells slots Q z k L xs pc lv st h := by
  obtain ⟨hx, hb, hml, hown, hts⟩ := C
  obtain ⟨hd, rfl, hi⟩ := chk3 (A := decode (ccOf k) pc = .ok ((.iload j), ilen ((.iload j)))) (n := nx) (m := pc + ilen ((.iload j))) (B := Nat.blt (pidx ((.iload j))) 1000 && chkI k pc ((.iload j)) a b t v w) (chkE_at hm)
  obtain ⟨hx0, hi⟩ := and2 hi
  have hx0 : pidx ((.iload j)) < 1000 := blt_of hx0
  intro H locs ls hP hS hq hl
  have hs1 : (match (generalizing := false) lgo lv a with
    | some (.int x) => some ((pc + ilen ((.iload j))), lv, .int x :: st, h)
    | _ => none) = some (pc', lv', st', h') := hs
  split at hs1
  · rename_i x heq
    cases hs1
    obtain rfl : j = a := Nat.eq_of_beq_eq_true hi
    exact lv_iload hx hb hd (hl.2.2 j _ heq) (kk H locs ls hP hS hq hl)
  · cases hs1
theorem st_aload_n {n : Fin 4} (C : CX k p s m args c) (w0 : WS z L xs s) (hw : WF z) (hR : 10 ≤ R.frames ∧ 200 ≤ R.locals ∧ cells ≤ R.cells ∧ slots ≤ R.slots) (hm : (miOf k).1 pc = some ((.aload_n n), nx, a, b, t, v, w)) (hs : pstep layF slenF schF ((.aload_n n), nx, a, b, t, v, w) lv st h = some (pc', lv', st', h')) 
    (kk : StepGoal p l e R s m args below meth c cells slots Q z k L xs pc' lv' st' h') : StepGoal p l e R s m args below meth c cells slots Q z k L xs pc lv st h := by
  obtain ⟨hx, hb, hml, hown, hts⟩ := C
  obtain ⟨hd, rfl, hi⟩ := chk3 (A := decode (ccOf k) pc = .ok ((.aload_n n), ilen ((.aload_n n)))) (n := nx) (m := pc + ilen ((.aload_n n))) (B := Nat.blt (pidx ((.aload_n n))) 1000 && chkI k pc ((.aload_n n)) a b t v w) (chkE_at hm)
  obtain ⟨hx0, hi⟩ := and2 hi
  have hx0 : pidx ((.aload_n n)) < 1000 := blt_of hx0
  intro H locs ls hP hS hq hl
  have hs1 : (match (generalizing := false) lgo lv a with
    | some (.ref x) => some ((pc + ilen ((.aload_n n))), lv, .ref x :: st, h)
    | _ => none) = some (pc', lv', st', h') := hs
  split at hs1
  · rename_i x heq
    cases hs1
    exact lv_aload_n hx hb hd (Nat.eq_of_beq_eq_true hi) (hl.2.2 a _ heq) (kk H locs ls hP hS hq hl)
  · cases hs1
theorem st_aload {j : Nat} (C : CX k p s m args c) (w0 : WS z L xs s) (hw : WF z) (hR : 10 ≤ R.frames ∧ 200 ≤ R.locals ∧ cells ≤ R.cells ∧ slots ≤ R.slots) (hm : (miOf k).1 pc = some ((.aload j), nx, a, b, t, v, w)) (hs : pstep layF slenF schF ((.aload j), nx, a, b, t, v, w) lv st h = some (pc', lv', st', h')) 
    (kk : StepGoal p l e R s m args below meth c cells slots Q z k L xs pc' lv' st' h') : StepGoal p l e R s m args below meth c cells slots Q z k L xs pc lv st h := by
  obtain ⟨hx, hb, hml, hown, hts⟩ := C
  obtain ⟨hd, rfl, hi⟩ := chk3 (A := decode (ccOf k) pc = .ok ((.aload j), ilen ((.aload j)))) (n := nx) (m := pc + ilen ((.aload j))) (B := Nat.blt (pidx ((.aload j))) 1000 && chkI k pc ((.aload j)) a b t v w) (chkE_at hm)
  obtain ⟨hx0, hi⟩ := and2 hi
  have hx0 : pidx ((.aload j)) < 1000 := blt_of hx0
  intro H locs ls hP hS hq hl
  have hs1 : (match (generalizing := false) lgo lv a with
    | some (.ref x) => some ((pc + ilen ((.aload j))), lv, .ref x :: st, h)
    | _ => none) = some (pc', lv', st', h') := hs
  split at hs1
  · rename_i x heq
    cases hs1
    obtain rfl : j = a := Nat.eq_of_beq_eq_true hi
    exact lv_aload hx hb hd (hl.2.2 j _ heq) (kk H locs ls hP hS hq hl)
  · cases hs1
theorem st_lload_n {n : Fin 4} (C : CX k p s m args c) (w0 : WS z L xs s) (hw : WF z) (hR : 10 ≤ R.frames ∧ 200 ≤ R.locals ∧ cells ≤ R.cells ∧ slots ≤ R.slots) (hm : (miOf k).1 pc = some ((.lload_n n), nx, a, b, t, v, w)) (hs : pstep layF slenF schF ((.lload_n n), nx, a, b, t, v, w) lv st h = some (pc', lv', st', h')) 
    (kk : StepGoal p l e R s m args below meth c cells slots Q z k L xs pc' lv' st' h') : StepGoal p l e R s m args below meth c cells slots Q z k L xs pc lv st h := by
  obtain ⟨hx, hb, hml, hown, hts⟩ := C
  obtain ⟨hd, rfl, hi⟩ := chk3 (A := decode (ccOf k) pc = .ok ((.lload_n n), ilen ((.lload_n n)))) (n := nx) (m := pc + ilen ((.lload_n n))) (B := Nat.blt (pidx ((.lload_n n))) 1000 && chkI k pc ((.lload_n n)) a b t v w) (chkE_at hm)
  obtain ⟨hx0, hi⟩ := and2 hi
  have hx0 : pidx ((.lload_n n)) < 1000 := blt_of hx0
  intro H locs ls hP hS hq hl
  have hs1 : (match (generalizing := false) lgo lv a with
    | some (.long x) => some ((pc + ilen ((.lload_n n))), lv, .long x :: st, h)
    | _ => none) = some (pc', lv', st', h') := hs
  split at hs1
  · rename_i x heq
    cases hs1
    exact lv_lload_n hx hb hd (Nat.eq_of_beq_eq_true hi) (hl.2.2 a _ heq) (kk H locs ls hP hS hq hl)
  · cases hs1
theorem st_lload {j : Nat} (C : CX k p s m args c) (w0 : WS z L xs s) (hw : WF z) (hR : 10 ≤ R.frames ∧ 200 ≤ R.locals ∧ cells ≤ R.cells ∧ slots ≤ R.slots) (hm : (miOf k).1 pc = some ((.lload j), nx, a, b, t, v, w)) (hs : pstep layF slenF schF ((.lload j), nx, a, b, t, v, w) lv st h = some (pc', lv', st', h')) 
    (kk : StepGoal p l e R s m args below meth c cells slots Q z k L xs pc' lv' st' h') : StepGoal p l e R s m args below meth c cells slots Q z k L xs pc lv st h := by
  obtain ⟨hx, hb, hml, hown, hts⟩ := C
  obtain ⟨hd, rfl, hi⟩ := chk3 (A := decode (ccOf k) pc = .ok ((.lload j), ilen ((.lload j)))) (n := nx) (m := pc + ilen ((.lload j))) (B := Nat.blt (pidx ((.lload j))) 1000 && chkI k pc ((.lload j)) a b t v w) (chkE_at hm)
  obtain ⟨hx0, hi⟩ := and2 hi
  have hx0 : pidx ((.lload j)) < 1000 := blt_of hx0
  intro H locs ls hP hS hq hl
  have hs1 : (match (generalizing := false) lgo lv a with
    | some (.long x) => some ((pc + ilen ((.lload j))), lv, .long x :: st, h)
    | _ => none) = some (pc', lv', st', h') := hs
  split at hs1
  · rename_i x heq
    cases hs1
    obtain rfl : j = a := Nat.eq_of_beq_eq_true hi
    exact lv_lload hx hb hd (hl.2.2 j _ heq) (kk H locs ls hP hS hq hl)
  · cases hs1
theorem st_istore_n {n : Fin 4} (C : CX k p s m args c) (w0 : WS z L xs s) (hw : WF z) (hR : 10 ≤ R.frames ∧ 200 ≤ R.locals ∧ cells ≤ R.cells ∧ slots ≤ R.slots) (hm : (miOf k).1 pc = some ((.istore_n n), nx, a, b, t, v, w)) (hs : pstep layF slenF schF ((.istore_n n), nx, a, b, t, v, w) lv st h = some (pc', lv', st', h')) 
    (kk : StepGoal p l e R s m args below meth c cells slots Q z k L xs pc' lv' st' h') : StepGoal p l e R s m args below meth c cells slots Q z k L xs pc lv st h := by
  obtain ⟨hx, hb, hml, hown, hts⟩ := C
  obtain ⟨hd, rfl, hi⟩ := chk3 (A := decode (ccOf k) pc = .ok ((.istore_n n), ilen ((.istore_n n)))) (n := nx) (m := pc + ilen ((.istore_n n))) (B := Nat.blt (pidx ((.istore_n n))) 1000 && chkI k pc ((.istore_n n)) a b t v w) (chkE_at hm)
  obtain ⟨hx0, hi⟩ := and2 hi
  have hx0 : pidx ((.istore_n n)) < 1000 := blt_of hx0
  intro H locs ls hP hS hq hl
  have hs1 : (match (generalizing := false) st with
    | .int x :: r => ls1 lv a (.int x) fun lv => some ((pc + ilen ((.istore_n n))), lv, r, h)
    | _ => none) = some (pc', lv', st', h') := hs
  split at hs1
  · rename_i x r
    obtain ⟨lv2, e2, sp⟩ := ls1_spec hs1
    cases e2
    obtain ⟨hi1, hi2⟩ := and2 (a := Nat.beq (n : Nat) a) (b := Nat.blt a (miOf k).2.2.2.2) hi
    exact lv_istore_n hx hb hd (Nat.eq_of_beq_eq_true hi1) hl.has (blt_of hi2) rfl (fun ls9 h9 => kk H locs ls9 hP hS hq (st_store1 hl sp h9))
  · cases hs1
theorem st_istore {j : Nat} (C : CX k p s m args c) (w0 : WS z L xs s) (hw : WF z) (hR : 10 ≤ R.frames ∧ 200 ≤ R.locals ∧ cells ≤ R.cells ∧ slots ≤ R.slots) (hm : (miOf k).1 pc = some ((.istore j), nx, a, b, t, v, w)) (hs : pstep layF slenF schF ((.istore j), nx, a, b, t, v, w) lv st h = some (pc', lv', st', h')) 
    (kk : StepGoal p l e R s m args below meth c cells slots Q z k L xs pc' lv' st' h') : StepGoal p l e R s m args below meth c cells slots Q z k L xs pc lv st h := by
  obtain ⟨hx, hb, hml, hown, hts⟩ := C
  obtain ⟨hd, rfl, hi⟩ := chk3 (A := decode (ccOf k) pc = .ok ((.istore j), ilen ((.istore j)))) (n := nx) (m := pc + ilen ((.istore j))) (B := Nat.blt (pidx ((.istore j))) 1000 && chkI k pc ((.istore j)) a b t v w) (chkE_at hm)
  obtain ⟨hx0, hi⟩ := and2 hi
  have hx0 : pidx ((.istore j)) < 1000 := blt_of hx0
  intro H locs ls hP hS hq hl
  have hs1 : (match (generalizing := false) st with
    | .int x :: r => ls1 lv a (.int x) fun lv => some ((pc + ilen ((.istore j))), lv, r, h)
    | _ => none) = some (pc', lv', st', h') := hs
  split at hs1
  · rename_i x r
    obtain ⟨lv2, e2, sp⟩ := ls1_spec hs1
    cases e2
    obtain ⟨hi1, hi2⟩ := and2 (a := Nat.beq j a) (b := Nat.blt a (miOf k).2.2.2.2) hi
    obtain rfl : j = a := Nat.eq_of_beq_eq_true hi1
    exact lv_istore hx hb hd hl.has (blt_of hi2) rfl (fun ls9 h9 => kk H locs ls9 hP hS hq (st_store1 hl sp h9))
  · cases hs1
theorem st_astore_n {n : Fin 4} (C : CX k p s m args c) (w0 : WS z L xs s) (hw : WF z) (hR : 10 ≤ R.frames ∧ 200 ≤ R.locals ∧ cells ≤ R.cells ∧ slots ≤ R.slots) (hm : (miOf k).1 pc = some ((.astore_n n), nx, a, b, t, v, w)) (hs : pstep layF slenF schF ((.astore_n n), nx, a, b, t, v, w) lv st h = some (pc', lv', st', h')) 
    (kk : StepGoal p l e R s m args below meth c cells slots Q z k L xs pc' lv' st' h') : StepGoal p l e R s m args below meth c cells slots Q z k L xs pc lv st h := by
  obtain ⟨hx, hb, hml, hown, hts⟩ := C
  obtain ⟨hd, rfl, hi⟩ := chk3 (A := decode (ccOf k) pc = .ok ((.astore_n n), ilen ((.astore_n n)))) (n := nx) (m := pc + ilen ((.astore_n n))) (B := Nat.blt (pidx ((.astore_n n))) 1000 && chkI k pc ((.astore_n n)) a b t v w) (chkE_at hm)
  obtain ⟨hx0, hi⟩ := and2 hi
  have hx0 : pidx ((.astore_n n)) < 1000 := blt_of hx0
  intro H locs ls hP hS hq hl
  have hs1 : (match (generalizing := false) st with
    | .ref x :: r => ls1 lv a (.ref x) fun lv => some ((pc + ilen ((.astore_n n))), lv, r, h)
    | _ => none) = some (pc', lv', st', h') := hs
  split at hs1
  · rename_i x r
    obtain ⟨lv2, e2, sp⟩ := ls1_spec hs1
    cases e2
    obtain ⟨hi1, hi2⟩ := and2 (a := Nat.beq (n : Nat) a) (b := Nat.blt a (miOf k).2.2.2.2) hi
    exact lv_astore_n hx hb hd (Nat.eq_of_beq_eq_true hi1) hl.has (blt_of hi2) rfl (fun ls9 h9 => kk H locs ls9 hP hS hq (st_store1 hl sp h9))
  · cases hs1
theorem st_astore {j : Nat} (C : CX k p s m args c) (w0 : WS z L xs s) (hw : WF z) (hR : 10 ≤ R.frames ∧ 200 ≤ R.locals ∧ cells ≤ R.cells ∧ slots ≤ R.slots) (hm : (miOf k).1 pc = some ((.astore j), nx, a, b, t, v, w)) (hs : pstep layF slenF schF ((.astore j), nx, a, b, t, v, w) lv st h = some (pc', lv', st', h')) 
    (kk : StepGoal p l e R s m args below meth c cells slots Q z k L xs pc' lv' st' h') : StepGoal p l e R s m args below meth c cells slots Q z k L xs pc lv st h := by
  obtain ⟨hx, hb, hml, hown, hts⟩ := C
  obtain ⟨hd, rfl, hi⟩ := chk3 (A := decode (ccOf k) pc = .ok ((.astore j), ilen ((.astore j)))) (n := nx) (m := pc + ilen ((.astore j))) (B := Nat.blt (pidx ((.astore j))) 1000 && chkI k pc ((.astore j)) a b t v w) (chkE_at hm)
  obtain ⟨hx0, hi⟩ := and2 hi
  have hx0 : pidx ((.astore j)) < 1000 := blt_of hx0
  intro H locs ls hP hS hq hl
  have hs1 : (match (generalizing := false) st with
    | .ref x :: r => ls1 lv a (.ref x) fun lv => some ((pc + ilen ((.astore j))), lv, r, h)
    | _ => none) = some (pc', lv', st', h') := hs
  split at hs1
  · rename_i x r
    obtain ⟨lv2, e2, sp⟩ := ls1_spec hs1
    cases e2
    obtain ⟨hi1, hi2⟩ := and2 (a := Nat.beq j a) (b := Nat.blt a (miOf k).2.2.2.2) hi
    obtain rfl : j = a := Nat.eq_of_beq_eq_true hi1
    exact lv_astore hx hb hd hl.has (blt_of hi2) rfl (fun ls9 h9 => kk H locs ls9 hP hS hq (st_store1 hl sp h9))
  · cases hs1
theorem st_lstore_n {n : Fin 4} (C : CX k p s m args c) (w0 : WS z L xs s) (hw : WF z) (hR : 10 ≤ R.frames ∧ 200 ≤ R.locals ∧ cells ≤ R.cells ∧ slots ≤ R.slots) (hm : (miOf k).1 pc = some ((.lstore_n n), nx, a, b, t, v, w)) (hs : pstep layF slenF schF ((.lstore_n n), nx, a, b, t, v, w) lv st h = some (pc', lv', st', h')) 
    (kk : StepGoal p l e R s m args below meth c cells slots Q z k L xs pc' lv' st' h') : StepGoal p l e R s m args below meth c cells slots Q z k L xs pc lv st h := by
  obtain ⟨hx, hb, hml, hown, hts⟩ := C
  obtain ⟨hd, rfl, hi⟩ := chk3 (A := decode (ccOf k) pc = .ok ((.lstore_n n), ilen ((.lstore_n n)))) (n := nx) (m := pc + ilen ((.lstore_n n))) (B := Nat.blt (pidx ((.lstore_n n))) 1000 && chkI k pc ((.lstore_n n)) a b t v w) (chkE_at hm)
  obtain ⟨hx0, hi⟩ := and2 hi
  have hx0 : pidx ((.lstore_n n)) < 1000 := blt_of hx0
  intro H locs ls hP hS hq hl
  have hs1 : (match (generalizing := false) st with
    | .long x :: r => ls2 lv a (.long x) fun lv => some ((pc + ilen ((.lstore_n n))), lv, r, h)
    | _ => none) = some (pc', lv', st', h') := hs
  split at hs1
  · rename_i x r
    obtain ⟨lv2, e2, sp⟩ := ls2_spec hs1
    cases e2
    obtain ⟨hi1, hi2⟩ := and2 (a := Nat.beq (n : Nat) a) (b := Nat.blt (a + 1) (miOf k).2.2.2.2) hi
    exact lv_lstore_n hx hb hd (Nat.eq_of_beq_eq_true hi1) hl.has (blt_of hi2) rfl (fun ls9 h9 => kk H locs ls9 hP hS hq (st_store2 hl sp h9))
  · cases hs1
theorem st_lstore {j : Nat} (C : CX k p s m args c) (w0 : WS z L xs s) (hw : WF z) (hR : 10 ≤ R.frames ∧ 200 ≤ R.locals ∧ cells ≤ R.cells ∧ slots ≤ R.slots) (hm : (miOf k).1 pc = some ((.lstore j), nx, a, b, t, v, w)) (hs : pstep layF slenF schF ((.lstore j), nx, a, b, t, v, w) lv st h = some (pc', lv', st', h')) 
    (kk : StepGoal p l e R s m args below meth c cells slots Q z k L xs pc' lv' st' h') : StepGoal p l e R s m args below meth c cells slots Q z k L xs pc lv st h := by
  obtain ⟨hx, hb, hml, hown, hts⟩ := C
  obtain ⟨hd, rfl, hi⟩ := chk3 (A := decode (ccOf k) pc = .ok ((.lstore j), ilen ((.lstore j)))) (n := nx) (m := pc + ilen ((.lstore j))) (B := Nat.blt (pidx ((.lstore j))) 1000 && chkI k pc ((.lstore j)) a b t v w) (chkE_at hm)
  obtain ⟨hx0, hi⟩ := and2 hi
  have hx0 : pidx ((.lstore j)) < 1000 := blt_of hx0
  intro H locs ls hP hS hq hl
  have hs1 : (match (generalizing := false) st with
    | .long x :: r => ls2 lv a (.long x) fun lv => some ((pc + ilen ((.lstore j))), lv, r, h)
    | _ => none) = some (pc', lv', st', h') := hs
  split at hs1
  · rename_i x r
    obtain ⟨lv2, e2, sp⟩ := ls2_spec hs1
    cases e2
    obtain ⟨hi1, hi2⟩ := and2 (a := Nat.beq j a) (b := Nat.blt (a + 1) (miOf k).2.2.2.2) hi
    obtain rfl : j = a := Nat.eq_of_beq_eq_true hi1
    exact lv_lstore hx hb hd hl.has (blt_of hi2) rfl (fun ls9 h9 => kk H locs ls9 hP hS hq (st_store2 hl sp h9))
  · cases hs1
theorem st_iinc {j : Nat} {n : Int} (C : CX k p s m args c) (w0 : WS z L xs s) (hw : WF z) (hR : 10 ≤ R.frames ∧ 200 ≤ R.locals ∧ cells ≤ R.cells ∧ slots ≤ R.slots) (hm : (miOf k).1 pc = some ((.iinc j n), nx, a, b, t, v, w)) (hs : pstep layF slenF schF ((.iinc j n), nx, a, b, t, v, w) lv st h = some (pc', lv', st', h')) 
    (kk : StepGoal p l e R s m args below meth c cells slots Q z k L xs pc' lv' st' h') : StepGoal p l e R s m args below meth c cells slots Q z k L xs pc lv st h := by
  obtain ⟨hx, hb, hml, hown, hts⟩ := C
  obtain ⟨hd, rfl, hi⟩ := chk3 (A := decode (ccOf k) pc = .ok ((.iinc j n), ilen ((.iinc j n)))) (n := nx) (m := pc + ilen ((.iinc j n))) (B := Nat.blt (pidx ((.iinc j n))) 1000 && chkI k pc ((.iinc j n)) a b t v w) (chkE_at hm)
  obtain ⟨hx0, hi⟩ := and2 hi
  have hx0 : pidx ((.iinc j n)) < 1000 := blt_of hx0
  intro H locs ls hP hS hq hl
  have hs1 : (match (generalizing := false) lgo lv a with
    | some (.int x) => ls1 lv a (.int (x + v)) fun lv => some ((pc + ilen ((.iinc j n))), lv, st, h)
    | _ => none) = some (pc', lv', st', h') := hs
  split at hs1
  · rename_i x heq
    obtain ⟨lv2, e2, sp⟩ := ls1_spec hs1
    cases e2
    simp only [chkI, Bool.and_eq_true, decide_eq_true_eq] at hi
    obtain rfl : j = a := Nat.eq_of_beq_eq_true hi.1.1
    have hmem := al_to (ad := z.2.2.1) (k := 0) heq
    rw [Nat.zero_add] at hmem
    obtain ⟨k9, hk9⟩ := List.getElem?_of_mem hmem
    exact lv_iinc (k := k9) hx hb hd hl.has hk9 (by rw [hi.1.2]) (blt_of hi.2) rfl (fun ls9 h9 => kk H locs ls9 hP hS hq (st_store1 hl sp h9))
  · cases hs1
theorem st_ldc {x0 : Nat} (C : CX k p s m args c) (w0 : WS z L xs s) (hw : WF z) (hR : 10 ≤ R.frames ∧ 200 ≤ R.locals ∧ cells ≤ R.cells ∧ slots ≤ R.slots) (hm : (miOf k).1 pc = some ((.ldc x0), nx, a, b, t, v, w)) (hs : pstep layF slenF schF ((.ldc x0), nx, a, b, t, v, w) lv st h = some (pc', lv', st', h')) (hstr : ∀ i j, i < 1000 → sres (1000 * clsOf k + i) = some j → j < 7 → vk_R (ownN (clsOf k)) i (sTxt j) (z.2.2.1 (SB + j)) s)
    (kk : StepGoal p l e R s m args below meth c cells slots Q z k L xs pc' lv' st' h') : StepGoal p l e R s m args below meth c cells slots Q z k L xs pc lv st h := by
  obtain ⟨hx, hb, hml, hown, hts⟩ := C
  obtain ⟨hd, rfl, hi⟩ := chk3 (A := decode (ccOf k) pc = .ok ((.ldc x0), ilen ((.ldc x0)))) (n := nx) (m := pc + ilen ((.ldc x0))) (B := Nat.blt (pidx ((.ldc x0))) 1000 && chkI k pc ((.ldc x0)) a b t v w) (chkE_at hm)
  obtain ⟨hx0, hi⟩ := and2 hi
  have hx0 : pidx ((.ldc x0)) < 1000 := blt_of hx0
  intro H locs ls hP hS hq hl
  have hs1 : (match (generalizing := false) t with
    | 0 => some ((pc + ilen ((.ldc x0))), lv, .int v :: st, h)
    | 1 => some ((pc + ilen ((.ldc x0))), lv, .ref (SB + a) :: st, h)
    | _ => none) = some (pc', lv', st', h') := hs
  split at hs1
  · cases hs1
    have h1 : cres (1000 * clsOf k + x0) = some v := of_decide_eq_true hi
    have h2 := chkC_at h1
    rw [show (1000 * clsOf k + x0) / 1000 = clsOf k by have : x0 < 1000 := hx0; omega, show (1000 * clsOf k + x0) % 1000 = x0 by have : x0 < 1000 := hx0; omega] at h2
    exact lv_ldc hx hb hown (hts _ (gtbl_in h2 rfl)) hd (kk H locs ls hP hS hq hl)
  · cases hs1
    simp only [chkI, Bool.and_eq_true, decide_eq_true_eq] at hi
    exact va_ldcS hx hb hown (hstr _ _ hx0 hi.1 (blt_of hi.2)) hd (kk H locs ls hP hS hq hl)
  · cases hs1
theorem st_ldc_w {x0 : Nat} (C : CX k p s m args c) (w0 : WS z L xs s) (hw : WF z) (hR : 10 ≤ R.frames ∧ 200 ≤ R.locals ∧ cells ≤ R.cells ∧ slots ≤ R.slots) (hm : (miOf k).1 pc = some ((.ldc_w x0), nx, a, b, t, v, w)) (hs : pstep layF slenF schF ((.ldc_w x0), nx, a, b, t, v, w) lv st h = some (pc', lv', st', h')) 
    (kk : StepGoal p l e R s m args below meth c cells slots Q z k L xs pc' lv' st' h') : StepGoal p l e R s m args below meth c cells slots Q z k L xs pc lv st h := by
  obtain ⟨hx, hb, hml, hown, hts⟩ := C
  obtain ⟨hd, rfl, hi⟩ := chk3 (A := decode (ccOf k) pc = .ok ((.ldc_w x0), ilen ((.ldc_w x0)))) (n := nx) (m := pc + ilen ((.ldc_w x0))) (B := Nat.blt (pidx ((.ldc_w x0))) 1000 && chkI k pc ((.ldc_w x0)) a b t v w) (chkE_at hm)
  obtain ⟨hx0, hi⟩ := and2 hi
  have hx0 : pidx ((.ldc_w x0)) < 1000 := blt_of hx0
  intro H locs ls hP hS hq hl
  have hs1 : (some ((pc + ilen ((.ldc_w x0))), lv, .int v :: st, h)) = some (pc', lv', st', h') := hs
  cases hs1
  have h1 : cres (1000 * clsOf k + x0) = some v := of_decide_eq_true hi
  have h2 := chkC_at h1
  rw [show (1000 * clsOf k + x0) / 1000 = clsOf k by have : x0 < 1000 := hx0; omega, show (1000 * clsOf k + x0) % 1000 = x0 by have : x0 < 1000 := hx0; omega] at h2
  exact lv_ldcw hx hb hown (hts _ (gtbl_in h2 rfl)) hd (kk H locs ls hP hS hq hl)
theorem st_ldc2_w {x0 : Nat} (C : CX k p s m args c) (w0 : WS z L xs s) (hw : WF z) (hR : 10 ≤ R.frames ∧ 200 ≤ R.locals ∧ cells ≤ R.cells ∧ slots ≤ R.slots) (hm : (miOf k).1 pc = some ((.ldc2_w x0), nx, a, b, t, v, w)) (hs : pstep layF slenF schF ((.ldc2_w x0), nx, a, b, t, v, w) lv st h = some (pc', lv', st', h')) 
    (kk : StepGoal p l e R s m args below meth c cells slots Q z k L xs pc' lv' st' h') : StepGoal p l e R s m args below meth c cells slots Q z k L xs pc lv st h := by
  obtain ⟨hx, hb, hml, hown, hts⟩ := C
  obtain ⟨hd, rfl, hi⟩ := chk3 (A := decode (ccOf k) pc = .ok ((.ldc2_w x0), ilen ((.ldc2_w x0)))) (n := nx) (m := pc + ilen ((.ldc2_w x0))) (B := Nat.blt (pidx ((.ldc2_w x0))) 1000 && chkI k pc ((.ldc2_w x0)) a b t v w) (chkE_at hm)
  obtain ⟨hx0, hi⟩ := and2 hi
  have hx0 : pidx ((.ldc2_w x0)) < 1000 := blt_of hx0
  intro H locs ls hP hS hq hl
  have hs1 : (some ((pc + ilen ((.ldc2_w x0))), lv, .long w :: st, h)) = some (pc', lv', st', h') := hs
  cases hs1
  have h1 : lres (1000 * clsOf k + x0) = some w := of_decide_eq_true hi
  have h2 := chkL64_at h1
  rw [show (1000 * clsOf k + x0) / 1000 = clsOf k by have : x0 < 1000 := hx0; omega, show (1000 * clsOf k + x0) % 1000 = x0 by have : x0 < 1000 := hx0; omega] at h2
  exact lv_ldc2 hx hb hown (hts _ (gtbl_in h2 rfl)) hd (kk H locs ls hP hS hq hl)
theorem st_getfield {x0 : Nat} (C : CX k p s m args c) (w0 : WS z L xs s) (hw : WF z) (hR : 10 ≤ R.frames ∧ 200 ≤ R.locals ∧ cells ≤ R.cells ∧ slots ≤ R.slots) (hm : (miOf k).1 pc = some ((.getfield x0), nx, a, b, t, v, w)) (hs : pstep layF slenF schF ((.getfield x0), nx, a, b, t, v, w) lv st h = some (pc', lv', st', h')) 
    (kk : StepGoal p l e R s m args below meth c cells slots Q z k L xs pc' lv' st' h') : StepGoal p l e R s m args below meth c cells slots Q z k L xs pc lv st h := by
  obtain ⟨hx, hb, hml, hown, hts⟩ := C
  obtain ⟨hd, rfl, hi⟩ := chk3 (A := decode (ccOf k) pc = .ok ((.getfield x0), ilen ((.getfield x0)))) (n := nx) (m := pc + ilen ((.getfield x0))) (B := Nat.blt (pidx ((.getfield x0))) 1000 && chkI k pc ((.getfield x0)) a b t v w) (chkE_at hm)
  obtain ⟨hx0, hi⟩ := and2 hi
  have hx0 : pidx ((.getfield x0)) < 1000 := blt_of hx0
  intro H locs ls hP hS hq hl
  have hs1 : (match (generalizing := false) st with
    | .ref o :: r => match (generalizing := false) layF o with
      | (0, ci, fs) => match (generalizing := false) Nat.beq ci a with
        | true => match (generalizing := false) lgf fs b with
          | some (some j) => some ((pc + ilen ((.getfield x0))), lv, .ref j :: r, h)
          | some none => some ((pc + ilen ((.getfield x0))), lv, .int (h.1 o b) :: r, h)
          | none => none
        | false => none
      | _ => none
    | _ => none) = some (pc', lv', st', h') := hs
  have hq1 : (1000 * clsOf k + x0) / 1000 = clsOf k := by have : x0 < 1000 := hx0; omega
  have hq2 : (1000 * clsOf k + x0) % 1000 = x0 := by have : x0 < 1000 := hx0; omega
  split at hs1
  · rename_i o r
    split at hs1
    · rename_i ci fs heq
      split at hs1
      · rename_i hb1
        obtain rfl : ci = a := Nat.eq_of_beq_eq_true hb1
        have ho := lay_lt heq (by decide) (by decide)
        have hE : encE z h o = .inr (ci, flds z.2.2.1 (h.1 o) fs 0) := by unfold encE; rw [heq]; rfl
        have hget : (wd z h)[o]? = some (z.2.2.1 o, .inr (ci, flds z.2.2.1 (h.1 o) fs 0)) := by rw [wd_get ho, hE]
        cases hf : fres (1000 * clsOf k + x0) with
        | none => simp only [chkI, hf] at hi; cases hi
        | some q9 =>
          obtain ⟨ci2, b2, nest⟩ := q9
          simp only [chkI, hf] at hi
          obtain ⟨e1, e2⟩ := beq2 hi
          obtain rfl : ci2 = ci := e1
          obtain rfl : b2 = b := Nat.eq_of_beq_eq_true e2
          obtain ⟨hw1, hlt, hc9⟩ := chkF_at hf
          split at hs1
          · rename_i j heq2
            cases hs1
            have hv := flds_get (ad := z.2.2.1) (f := h.1 o) (k := 0) heq2
            skip
            cases nest with
            | true =>
              simp only [fW, hq1, hq2] at hw1
              exact va_getN (host := "WindyTours") hx hb hts (usw ci2 hc9) hown w0.1 hP o hget (clA hc9) b2 hlt (va_Nw.use rfl (w0.2.1 _ hw1 rfl)) (fun _ h9 => h9) hv hd (kk H locs ls hP hS hq hl)
            | false =>
              simp only [fW, hq1, hq2] at hw1
              exact va_get hx hb hts (usw ci2 hc9) hown w0.1 hP o hget (clA hc9) b2 hlt (hts _ (gtbl_in hw1 rfl)) (fun _ h9 => h9) hv hd (kk H locs ls hP hS hq hl)
          · rename_i heq2
            cases hs1
            have hv := flds_get (ad := z.2.2.1) (f := h.1 o) (k := 0) heq2
            rw [Nat.zero_add] at hv
            cases nest with
            | true =>
              simp only [fW, hq1, hq2] at hw1
              exact va_getN (host := "WindyTours") hx hb hts (usw ci2 hc9) hown w0.1 hP o hget (clA hc9) b2 hlt (va_Nw.use rfl (w0.2.1 _ hw1 rfl)) (fun _ h9 => h9) hv hd (kk H locs ls hP hS hq hl)
            | false =>
              simp only [fW, hq1, hq2] at hw1
              exact va_get hx hb hts (usw ci2 hc9) hown w0.1 hP o hget (clA hc9) b2 hlt (hts _ (gtbl_in hw1 rfl)) (fun _ h9 => h9) hv hd (kk H locs ls hP hS hq hl)
          · cases hs1
      · cases hs1
    · cases hs1
  · cases hs1
theorem st_putfield {x0 : Nat} (C : CX k p s m args c) (w0 : WS z L xs s) (hw : WF z) (hR : 10 ≤ R.frames ∧ 200 ≤ R.locals ∧ cells ≤ R.cells ∧ slots ≤ R.slots) (hm : (miOf k).1 pc = some ((.putfield x0), nx, a, b, t, v, w)) (hs : pstep layF slenF schF ((.putfield x0), nx, a, b, t, v, w) lv st h = some (pc', lv', st', h')) 
    (kk : StepGoal p l e R s m args below meth c cells slots Q z k L xs pc' lv' st' h') : StepGoal p l e R s m args below meth c cells slots Q z k L xs pc lv st h := by
  obtain ⟨hx, hb, hml, hown, hts⟩ := C
  obtain ⟨hd, rfl, hi⟩ := chk3 (A := decode (ccOf k) pc = .ok ((.putfield x0), ilen ((.putfield x0)))) (n := nx) (m := pc + ilen ((.putfield x0))) (B := Nat.blt (pidx ((.putfield x0))) 1000 && chkI k pc ((.putfield x0)) a b t v w) (chkE_at hm)
  obtain ⟨hx0, hi⟩ := and2 hi
  have hx0 : pidx ((.putfield x0)) < 1000 := blt_of hx0
  intro H locs ls hP hS hq hl
  have hs1 : (match (generalizing := false) st with
    | .int x :: .ref o :: r => match (generalizing := false) layF o with
      | (0, ci, fs) => match (generalizing := false) Nat.beq ci a with
        | true => match (generalizing := false) lgf fs b with
          | some none => match (generalizing := false) t with
            | 0 => some ((pc + ilen ((.putfield x0))), lv, r, pu h o b x)
            | 1 => if x = 0 then some ((pc + ilen ((.putfield x0))), lv, r, pu h o b 0) else if x = 1 then some ((pc + ilen ((.putfield x0))), lv, r, pu h o b 1) else none
            | _ => none
          | _ => none
        | false => none
      | _ => none
    | _ => none) = some (pc', lv', st', h') := hs
  have hq1 : (1000 * clsOf k + x0) / 1000 = clsOf k := by have : x0 < 1000 := hx0; omega
  have hq2 : (1000 * clsOf k + x0) % 1000 = x0 := by have : x0 < 1000 := hx0; omega
  split at hs1
  · rename_i x o r
    split at hs1
    · rename_i ci fs heq
      split at hs1
      · rename_i hb1
        obtain rfl : ci = a := Nat.eq_of_beq_eq_true hb1
        have ho := lay_lt heq (by decide) (by decide)
        have hE : encE z h o = .inr (ci, flds z.2.2.1 (h.1 o) fs 0) := by unfold encE; rw [heq]; rfl
        have hget : (wd z h)[o]? = some (z.2.2.1 o, .inr (ci, flds z.2.2.1 (h.1 o) fs 0)) := by rw [wd_get ho, hE]
        split at hs1
        · rename_i heq2
          cases hf : fres (1000 * clsOf k + x0) with
          | none => simp only [chkI, hf] at hi; cases hi
          | some q9 =>
            obtain ⟨ci2, b2, nest⟩ := q9
            simp only [chkI, hf, Bool.and_eq_true, Bool.not_eq_true'] at hi
            obtain ⟨⟨⟨e1, e2⟩, hfin⟩, hty⟩ := hi
            obtain rfl : ci2 = ci := Nat.eq_of_beq_eq_true e1
            obtain rfl : b2 = b := Nat.eq_of_beq_eq_true e2
            obtain ⟨hw1, hlt, hc9⟩ := chkF_at hf
            have hv := flds_get (ad := z.2.2.1) (f := h.1 o) (k := 0) heq2
            have hlen := (List.getElem?_eq_some_iff.mp hv).1
            have hset : ∀ y : Int32, (wd z h).set o (z.2.2.1 o, .inr (ci2, (flds z.2.2.1 (h.1 o) fs 0).set b2 (.int y))) = wd z (pu h o b2 y) := by
              intro y
              refine wd_upd ho ?_ (pu_o h o b2 y)
              unfold encE
              rw [heq, pu_at, flds_set heq2, Nat.zero_add]
              rfl
            have hsc : ∀ y : Int32, scr L xs (pu h o b2 y) := fun y => scr_of hq (pu_o h o b2 y 167 (by omega)).1 (pu_o h o b2 y 168 (by omega)).1
            split at hs1
            · cases hs1
              cases nest with
              | true =>
                simp only [fW, hq1, hq2] at hw1
                exact va_putN (host := "WindyTours") (v := .int x) hx hb hts (usw ci2 hc9) (fY ci2) (fY_ok hc9) (fM_ok hc9) hown w0.1 hP (wd_D hw h) hS o hget (clA hc9) b2 hlt (va_Nw.use rfl (w0.2.1 _ hw1 rfl)) (fun _ h9 => h9) hfin (of_decide_eq_true hty) rfl rfl hlen hd (fun H1 locs1 hP1 hD1 hS1 => kk H1 locs1 ls (by rw [hset] at hP1; exact hP1) hS1 (hsc _) hl)
              | false =>
                simp only [fW, hq1, hq2] at hw1
                exact va_put (v := .int x) hx hb hts (usw ci2 hc9) (fY ci2) (fY_ok hc9) (fM_ok hc9) hown w0.1 hP (wd_D hw h) hS o hget (clA hc9) b2 hlt (hts _ (gtbl_in hw1 rfl)) (fun _ h9 => h9) hfin (of_decide_eq_true hty) rfl rfl hlen hd (fun H1 locs1 hP1 hD1 hS1 => kk H1 locs1 ls (by rw [hset] at hP1; exact hP1) hS1 (hsc _) hl)
            · by_cases q0 : x = 0
              · rw [if_pos q0] at hs1
                cases hs1
                subst q0
                cases nest with
                | true =>
                  simp only [fW, hq1, hq2] at hw1
                  exact va_putN (host := "WindyTours") (v := .int 0) hx hb hts (usw ci2 hc9) (fY ci2) (fY_ok hc9) (fM_ok hc9) hown w0.1 hP (wd_D hw h) hS o hget (clA hc9) b2 hlt (va_Nw.use rfl (w0.2.1 _ hw1 rfl)) (fun _ h9 => h9) hfin (of_decide_eq_true hty) rfl rfl hlen hd (fun H1 locs1 hP1 hD1 hS1 => kk H1 locs1 ls (by rw [hset] at hP1; exact hP1) hS1 (hsc _) hl)
                | false =>
                  simp only [fW, hq1, hq2] at hw1
                  exact va_put (v := .int 0) hx hb hts (usw ci2 hc9) (fY ci2) (fY_ok hc9) (fM_ok hc9) hown w0.1 hP (wd_D hw h) hS o hget (clA hc9) b2 hlt (hts _ (gtbl_in hw1 rfl)) (fun _ h9 => h9) hfin (of_decide_eq_true hty) rfl rfl hlen hd (fun H1 locs1 hP1 hD1 hS1 => kk H1 locs1 ls (by rw [hset] at hP1; exact hP1) hS1 (hsc _) hl)
              · rw [if_neg q0] at hs1
                by_cases q1 : x = 1
                · rw [if_pos q1] at hs1
                  cases hs1
                  subst q1
                  cases nest with
                  | true =>
                    simp only [fW, hq1, hq2] at hw1
                    exact va_putN (host := "WindyTours") (v := .int 1) hx hb hts (usw ci2 hc9) (fY ci2) (fY_ok hc9) (fM_ok hc9) hown w0.1 hP (wd_D hw h) hS o hget (clA hc9) b2 hlt (va_Nw.use rfl (w0.2.1 _ hw1 rfl)) (fun _ h9 => h9) hfin (of_decide_eq_true hty) rfl rfl hlen hd (fun H1 locs1 hP1 hD1 hS1 => kk H1 locs1 ls (by rw [hset] at hP1; exact hP1) hS1 (hsc _) hl)
                  | false =>
                    simp only [fW, hq1, hq2] at hw1
                    exact va_put (v := .int 1) hx hb hts (usw ci2 hc9) (fY ci2) (fY_ok hc9) (fM_ok hc9) hown w0.1 hP (wd_D hw h) hS o hget (clA hc9) b2 hlt (hts _ (gtbl_in hw1 rfl)) (fun _ h9 => h9) hfin (of_decide_eq_true hty) rfl rfl hlen hd (fun H1 locs1 hP1 hD1 hS1 => kk H1 locs1 ls (by rw [hset] at hP1; exact hP1) hS1 (hsc _) hl)
                · rw [if_neg q1] at hs1
                  cases hs1
            · cases hs1
        · cases hs1
      · cases hs1
    · cases hs1
  · cases hs1
theorem st_iaload  (C : CX k p s m args c) (w0 : WS z L xs s) (hw : WF z) (hR : 10 ≤ R.frames ∧ 200 ≤ R.locals ∧ cells ≤ R.cells ∧ slots ≤ R.slots) (hm : (miOf k).1 pc = some (.iaload, nx, a, b, t, v, w)) (hs : pstep layF slenF schF (.iaload, nx, a, b, t, v, w) lv st h = some (pc', lv', st', h')) (hL : L ≤ 3072)
    (kk : StepGoal p l e R s m args below meth c cells slots Q z k L xs pc' lv' st' h') : StepGoal p l e R s m args below meth c cells slots Q z k L xs pc lv st h := by
  obtain ⟨hx, hb, hml, hown, hts⟩ := C
  obtain ⟨hd, rfl, hi⟩ := chk3 (A := decode (ccOf k) pc = .ok (.iaload, ilen (.iaload))) (n := nx) (m := pc + ilen (.iaload)) (B := Nat.blt (pidx (.iaload)) 1000 && chkI k pc (.iaload) a b t v w) (chkE_at hm)
  obtain ⟨hx0, hi⟩ := and2 hi
  have hx0 : pidx (.iaload) < 1000 := blt_of hx0
  intro H locs ls hP hS hq hl
  have hs1 : (match (generalizing := false) st with
    | .int i :: .ref o :: r => match (generalizing := false) layF o with
      | (1, n, _) => if inb i n then some ((pc + ilen (.iaload)), lv, .int (h.1 o i.toNatClampNeg) :: r, h) else none
      | (7, _, _) => if inb i (h.1 (o + 1) 0).toNatClampNeg then some ((pc + ilen (.iaload)), lv, .int (h.1 o i.toNatClampNeg) :: r, h) else none
      | _ => none
    | _ => none) = some (pc', lv', st', h') := hs
  split at hs1
  · rename_i i o r
    split at hs1
    · rename_i n fs heq
      have ho := lay_lt heq (by decide) (by decide)
      have hE : encE z h o = .inl (z.2.1 1, n, .inl (h.1 o)) := by unfold encE; rw [heq]; rfl
      have hget : (wd z h)[o]? = some (z.2.2.1 o, .inl (z.2.1 1, n, .inl (h.1 o))) := by rw [wd_get ho, hE]
      by_cases hb1 : inb i n = true
      · rw [if_pos hb1] at hs1
        cases hs1
        exact va_iald hx hb w0.1 hP o 0 hget rfl (inb_in hb1) hd (kk H locs ls hP hS hq hl)
      · rw [if_neg hb1] at hs1
        cases hs1
    · rename_i n fs heq
      obtain rfl := lay_7 heq
      have hbn : (h.1 (167 + 1) 0).toNatClampNeg = L := by rw [show h.1 (167 + 1) 0 = nI L from hq.2]; exact nI_clamp (by omega)
      rw [hbn] at hs1
      by_cases hb1 : inb i L = true
      · rw [if_pos hb1] at hs1
        cases hs1
        refine va_sld hx hb w0.2.2.1 w0.2.2.2 hw.2.2 hS (inb_in hb1) hd ?_
        have k9 := (kk H locs ls hP hS hq hl)
        rw [hq.1] at k9
        exact k9
      · rw [if_neg hb1] at hs1
        cases hs1
    · cases hs1
  · cases hs1
theorem st_baload  (C : CX k p s m args c) (w0 : WS z L xs s) (hw : WF z) (hR : 10 ≤ R.frames ∧ 200 ≤ R.locals ∧ cells ≤ R.cells ∧ slots ≤ R.slots) (hm : (miOf k).1 pc = some (.baload, nx, a, b, t, v, w)) (hs : pstep layF slenF schF (.baload, nx, a, b, t, v, w) lv st h = some (pc', lv', st', h')) 
    (kk : StepGoal p l e R s m args below meth c cells slots Q z k L xs pc' lv' st' h') : StepGoal p l e R s m args below meth c cells slots Q z k L xs pc lv st h := by
  obtain ⟨hx, hb, hml, hown, hts⟩ := C
  obtain ⟨hd, rfl, hi⟩ := chk3 (A := decode (ccOf k) pc = .ok (.baload, ilen (.baload))) (n := nx) (m := pc + ilen (.baload)) (B := Nat.blt (pidx (.baload)) 1000 && chkI k pc (.baload) a b t v w) (chkE_at hm)
  obtain ⟨hx0, hi⟩ := and2 hi
  have hx0 : pidx (.baload) < 1000 := blt_of hx0
  intro H locs ls hP hS hq hl
  have hs1 : (match (generalizing := false) st with
    | .int i :: .ref o :: r => match (generalizing := false) layF o with
      | (2, n, _) => if inb i n then some ((pc + ilen (.baload)), lv, .int (h.1 o i.toNatClampNeg) :: r, h) else none
      | (3, n, _) => if inb i n then some ((pc + ilen (.baload)), lv, .int (h.1 o i.toNatClampNeg) :: r, h) else none
      | _ => none
    | _ => none) = some (pc', lv', st', h') := hs
  split at hs1
  · rename_i i o r
    split at hs1
    · rename_i n fs heq
      have ho := lay_lt heq (by decide) (by decide)
      have hE : encE z h o = .inl (z.2.1 2, n, .inl (h.1 o)) := by unfold encE; rw [heq]; rfl
      have hget : (wd z h)[o]? = some (z.2.2.1 o, .inl (z.2.1 2, n, .inl (h.1 o))) := by rw [wd_get ho, hE]
      by_cases hb1 : inb i n = true
      · rw [if_pos hb1] at hs1
        cases hs1
        exact va_bald hx hb w0.1 hP o 1 hget rfl (inb_in hb1) hd (kk H locs ls hP hS hq hl)
      · rw [if_neg hb1] at hs1
        cases hs1
    · rename_i n fs heq
      have ho := lay_lt heq (by decide) (by decide)
      have hE : encE z h o = .inl (z.2.1 3, n, .inl (h.1 o)) := by unfold encE; rw [heq]; rfl
      have hget : (wd z h)[o]? = some (z.2.2.1 o, .inl (z.2.1 3, n, .inl (h.1 o))) := by rw [wd_get ho, hE]
      by_cases hb1 : inb i n = true
      · rw [if_pos hb1] at hs1
        cases hs1
        exact va_zald hx hb w0.1 hP o 2 hget rfl (inb_in hb1) hd (kk H locs ls hP hS hq hl)
      · rw [if_neg hb1] at hs1
        cases hs1
    · cases hs1
  · cases hs1
theorem st_laload  (C : CX k p s m args c) (w0 : WS z L xs s) (hw : WF z) (hR : 10 ≤ R.frames ∧ 200 ≤ R.locals ∧ cells ≤ R.cells ∧ slots ≤ R.slots) (hm : (miOf k).1 pc = some (.laload, nx, a, b, t, v, w)) (hs : pstep layF slenF schF (.laload, nx, a, b, t, v, w) lv st h = some (pc', lv', st', h')) 
    (kk : StepGoal p l e R s m args below meth c cells slots Q z k L xs pc' lv' st' h') : StepGoal p l e R s m args below meth c cells slots Q z k L xs pc lv st h := by
  obtain ⟨hx, hb, hml, hown, hts⟩ := C
  obtain ⟨hd, rfl, hi⟩ := chk3 (A := decode (ccOf k) pc = .ok (.laload, ilen (.laload))) (n := nx) (m := pc + ilen (.laload)) (B := Nat.blt (pidx (.laload)) 1000 && chkI k pc (.laload) a b t v w) (chkE_at hm)
  obtain ⟨hx0, hi⟩ := and2 hi
  have hx0 : pidx (.laload) < 1000 := blt_of hx0
  intro H locs ls hP hS hq hl
  have hs1 : (match (generalizing := false) st with
    | .int i :: .ref o :: r => match (generalizing := false) layF o with
      | (4, n, _) => if inb i n then some ((pc + ilen (.laload)), lv, .long (h.2 o i.toNatClampNeg) :: r, h) else none
      | _ => none
    | _ => none) = some (pc', lv', st', h') := hs
  split at hs1
  · rename_i i o r
    split at hs1
    · rename_i n fs heq
      have ho := lay_lt heq (by decide) (by decide)
      have hE : encE z h o = .inl (z.2.1 4, n, .inr (.inl (h.2 o))) := by unfold encE; rw [heq]; rfl
      have hget : (wd z h)[o]? = some (z.2.2.1 o, .inl (z.2.1 4, n, .inr (.inl (h.2 o)))) := by rw [wd_get ho, hE]
      by_cases hb1 : inb i n = true
      · rw [if_pos hb1] at hs1
        cases hs1
        exact va_lald hx hb w0.1 hP o 3 hget rfl (inb_in hb1) hd (kk H locs ls hP hS hq hl)
      · rw [if_neg hb1] at hs1
        cases hs1
    · cases hs1
  · cases hs1
theorem st_iastore  (C : CX k p s m args c) (w0 : WS z L xs s) (hw : WF z) (hR : 10 ≤ R.frames ∧ 200 ≤ R.locals ∧ cells ≤ R.cells ∧ slots ≤ R.slots) (hm : (miOf k).1 pc = some (.iastore, nx, a, b, t, v, w)) (hs : pstep layF slenF schF (.iastore, nx, a, b, t, v, w) lv st h = some (pc', lv', st', h')) 
    (kk : StepGoal p l e R s m args below meth c cells slots Q z k L xs pc' lv' st' h') : StepGoal p l e R s m args below meth c cells slots Q z k L xs pc lv st h := by
  obtain ⟨hx, hb, hml, hown, hts⟩ := C
  obtain ⟨hd, rfl, hi⟩ := chk3 (A := decode (ccOf k) pc = .ok (.iastore, ilen (.iastore))) (n := nx) (m := pc + ilen (.iastore)) (B := Nat.blt (pidx (.iastore)) 1000 && chkI k pc (.iastore) a b t v w) (chkE_at hm)
  obtain ⟨hx0, hi⟩ := and2 hi
  have hx0 : pidx (.iastore) < 1000 := blt_of hx0
  intro H locs ls hP hS hq hl
  have hs1 : (match (generalizing := false) st with
    | .int x :: .int i :: .ref o :: r => match (generalizing := false) layF o with
      | (1, n, _) => if inb i n then some ((pc + ilen (.iastore)), lv, r, pu h o i.toNatClampNeg x) else none
      | _ => none
    | _ => none) = some (pc', lv', st', h') := hs
  split at hs1
  · rename_i x i o r
    split at hs1
    · rename_i n fs heq
      have ho := lay_lt heq (by decide) (by decide)
      have hE : encE z h o = .inl (z.2.1 1, n, .inl (h.1 o)) := by unfold encE; rw [heq]; rfl
      have hget : (wd z h)[o]? = some (z.2.2.1 o, .inl (z.2.1 1, n, .inl (h.1 o))) := by rw [wd_get ho, hE]
      by_cases hb1 : inb i n = true
      · rw [if_pos hb1] at hs1
        cases hs1
        have hset : (wd z h).set o (z.2.2.1 o, .inl (z.2.1 1, n, .inl (upd (h.1 o) i.toNatClampNeg x))) = wd z (pu h o i.toNatClampNeg x) := by
          refine wd_upd ho ?_ (pu_o h o i.toNatClampNeg x)
          unfold encE
          rw [heq, pu_at]
          rfl
        have hsc : scr L xs (pu h o i.toNatClampNeg x) := scr_of hq (pu_o h o i.toNatClampNeg x 167 (by omega)).1 (pu_o h o i.toNatClampNeg x 168 (by omega)).1
        exact va_iast hx hb w0.1 hP (wd_D hw h) hS o 0 hget rfl (inb_in hb1) hd (fun H1 locs1 hP1 hD1 hS1 => kk H1 locs1 ls (by rw [hset] at hP1; exact hP1) hS1 hsc hl)
      · rw [if_neg hb1] at hs1
        cases hs1
    · cases hs1
  · cases hs1
theorem st_bastore  (C : CX k p s m args c) (w0 : WS z L xs s) (hw : WF z) (hR : 10 ≤ R.frames ∧ 200 ≤ R.locals ∧ cells ≤ R.cells ∧ slots ≤ R.slots) (hm : (miOf k).1 pc = some (.bastore, nx, a, b, t, v, w)) (hs : pstep layF slenF schF (.bastore, nx, a, b, t, v, w) lv st h = some (pc', lv', st', h')) 
    (kk : StepGoal p l e R s m args below meth c cells slots Q z k L xs pc' lv' st' h') : StepGoal p l e R s m args below meth c cells slots Q z k L xs pc lv st h := by
  obtain ⟨hx, hb, hml, hown, hts⟩ := C
  obtain ⟨hd, rfl, hi⟩ := chk3 (A := decode (ccOf k) pc = .ok (.bastore, ilen (.bastore))) (n := nx) (m := pc + ilen (.bastore)) (B := Nat.blt (pidx (.bastore)) 1000 && chkI k pc (.bastore) a b t v w) (chkE_at hm)
  obtain ⟨hx0, hi⟩ := and2 hi
  have hx0 : pidx (.bastore) < 1000 := blt_of hx0
  intro H locs ls hP hS hq hl
  have hs1 : (match (generalizing := false) st with
    | .int x :: .int i :: .ref o :: r => match (generalizing := false) layF o with
      | (2, n, _) => if inb i n then some ((pc + ilen (.bastore)), lv, r, pu h o i.toNatClampNeg (vp_nar .byte x)) else none
      | (3, n, _) => if inb i n then some ((pc + ilen (.bastore)), lv, r, pu h o i.toNatClampNeg (vp_nar .boolean x)) else none
      | _ => none
    | _ => none) = some (pc', lv', st', h') := hs
  split at hs1
  · rename_i x i o r
    split at hs1
    · rename_i n fs heq
      have ho := lay_lt heq (by decide) (by decide)
      have hE : encE z h o = .inl (z.2.1 2, n, .inl (h.1 o)) := by unfold encE; rw [heq]; rfl
      have hget : (wd z h)[o]? = some (z.2.2.1 o, .inl (z.2.1 2, n, .inl (h.1 o))) := by rw [wd_get ho, hE]
      by_cases hb1 : inb i n = true
      · rw [if_pos hb1] at hs1
        cases hs1
        have hset : (wd z h).set o (z.2.2.1 o, .inl (z.2.1 2, n, .inl (upd (h.1 o) i.toNatClampNeg (vp_nar .byte x)))) = wd z (pu h o i.toNatClampNeg (vp_nar .byte x)) := by
          refine wd_upd ho ?_ (pu_o h o i.toNatClampNeg (vp_nar .byte x))
          unfold encE
          rw [heq, pu_at]
          rfl
        have hsc : scr L xs (pu h o i.toNatClampNeg (vp_nar .byte x)) := scr_of hq (pu_o h o i.toNatClampNeg (vp_nar .byte x) 167 (by omega)).1 (pu_o h o i.toNatClampNeg (vp_nar .byte x) 168 (by omega)).1
        exact va_bast hx hb w0.1 hP (wd_D hw h) hS o 1 hget rfl (inb_in hb1) hd (fun H1 locs1 hP1 hD1 hS1 => kk H1 locs1 ls (by rw [hset] at hP1; exact hP1) hS1 hsc hl)
      · rw [if_neg hb1] at hs1
        cases hs1
    · rename_i n fs heq
      have ho := lay_lt heq (by decide) (by decide)
      have hE : encE z h o = .inl (z.2.1 3, n, .inl (h.1 o)) := by unfold encE; rw [heq]; rfl
      have hget : (wd z h)[o]? = some (z.2.2.1 o, .inl (z.2.1 3, n, .inl (h.1 o))) := by rw [wd_get ho, hE]
      by_cases hb1 : inb i n = true
      · rw [if_pos hb1] at hs1
        cases hs1
        have hset : (wd z h).set o (z.2.2.1 o, .inl (z.2.1 3, n, .inl (upd (h.1 o) i.toNatClampNeg (vp_nar .boolean x)))) = wd z (pu h o i.toNatClampNeg (vp_nar .boolean x)) := by
          refine wd_upd ho ?_ (pu_o h o i.toNatClampNeg (vp_nar .boolean x))
          unfold encE
          rw [heq, pu_at]
          rfl
        have hsc : scr L xs (pu h o i.toNatClampNeg (vp_nar .boolean x)) := scr_of hq (pu_o h o i.toNatClampNeg (vp_nar .boolean x) 167 (by omega)).1 (pu_o h o i.toNatClampNeg (vp_nar .boolean x) 168 (by omega)).1
        exact va_zast hx hb w0.1 hP (wd_D hw h) hS o 2 hget rfl (inb_in hb1) hd (fun H1 locs1 hP1 hD1 hS1 => kk H1 locs1 ls (by rw [hset] at hP1; exact hP1) hS1 hsc hl)
      · rw [if_neg hb1] at hs1
        cases hs1
    · cases hs1
  · cases hs1
theorem st_lastore  (C : CX k p s m args c) (w0 : WS z L xs s) (hw : WF z) (hR : 10 ≤ R.frames ∧ 200 ≤ R.locals ∧ cells ≤ R.cells ∧ slots ≤ R.slots) (hm : (miOf k).1 pc = some (.lastore, nx, a, b, t, v, w)) (hs : pstep layF slenF schF (.lastore, nx, a, b, t, v, w) lv st h = some (pc', lv', st', h')) 
    (kk : StepGoal p l e R s m args below meth c cells slots Q z k L xs pc' lv' st' h') : StepGoal p l e R s m args below meth c cells slots Q z k L xs pc lv st h := by
  obtain ⟨hx, hb, hml, hown, hts⟩ := C
  obtain ⟨hd, rfl, hi⟩ := chk3 (A := decode (ccOf k) pc = .ok (.lastore, ilen (.lastore))) (n := nx) (m := pc + ilen (.lastore)) (B := Nat.blt (pidx (.lastore)) 1000 && chkI k pc (.lastore) a b t v w) (chkE_at hm)
  obtain ⟨hx0, hi⟩ := and2 hi
  have hx0 : pidx (.lastore) < 1000 := blt_of hx0
  intro H locs ls hP hS hq hl
  have hs1 : (match (generalizing := false) st with
    | .long x :: .int i :: .ref o :: r => match (generalizing := false) layF o with
      | (4, n, _) => if inb i n then some ((pc + ilen (.lastore)), lv, r, pul h o i.toNatClampNeg x) else none
      | _ => none
    | _ => none) = some (pc', lv', st', h') := hs
  split at hs1
  · rename_i x i o r
    split at hs1
    · rename_i n fs heq
      have ho := lay_lt heq (by decide) (by decide)
      have hE : encE z h o = .inl (z.2.1 4, n, .inr (.inl (h.2 o))) := by unfold encE; rw [heq]; rfl
      have hget : (wd z h)[o]? = some (z.2.2.1 o, .inl (z.2.1 4, n, .inr (.inl (h.2 o)))) := by rw [wd_get ho, hE]
      by_cases hb1 : inb i n = true
      · rw [if_pos hb1] at hs1
        cases hs1
        have hset : (wd z h).set o (z.2.2.1 o, .inl (z.2.1 4, n, .inr (.inl (vp_updL (h.2 o) i.toNatClampNeg x)))) = wd z (pul h o i.toNatClampNeg x) := by
          refine wd_upd ho ?_ (pul_o h o i.toNatClampNeg x)
          unfold encE
          rw [heq, pul_at]
          rfl
        have hsc : scr L xs (pul h o i.toNatClampNeg x) := scr_of hq (pul_o h o i.toNatClampNeg x 167 (by omega)).1 (pul_o h o i.toNatClampNeg x 168 (by omega)).1
        exact va_last hx hb w0.1 hP (wd_D hw h) hS o 3 hget rfl (inb_in hb1) hd (fun H1 locs1 hP1 hD1 hS1 => kk H1 locs1 ls (by rw [hset] at hP1; exact hP1) hS1 hsc hl)
      · rw [if_neg hb1] at hs1
        cases hs1
    · cases hs1
  · cases hs1
theorem st_aaload  (C : CX k p s m args c) (w0 : WS z L xs s) (hw : WF z) (hR : 10 ≤ R.frames ∧ 200 ≤ R.locals ∧ cells ≤ R.cells ∧ slots ≤ R.slots) (hm : (miOf k).1 pc = some (.aaload, nx, a, b, t, v, w)) (hs : pstep layF slenF schF (.aaload, nx, a, b, t, v, w) lv st h = some (pc', lv', st', h')) 
    (kk : StepGoal p l e R s m args below meth c cells slots Q z k L xs pc' lv' st' h') : StepGoal p l e R s m args below meth c cells slots Q z k L xs pc lv st h := by
  obtain ⟨hx, hb, hml, hown, hts⟩ := C
  obtain ⟨hd, rfl, hi⟩ := chk3 (A := decode (ccOf k) pc = .ok (.aaload, ilen (.aaload))) (n := nx) (m := pc + ilen (.aaload)) (B := Nat.blt (pidx (.aaload)) 1000 && chkI k pc (.aaload) a b t v w) (chkE_at hm)
  obtain ⟨hx0, hi⟩ := and2 hi
  have hx0 : pidx (.aaload) < 1000 := blt_of hx0
  intro H locs ls hP hS hq hl
  have hs1 : (match (generalizing := false) st with
    | .int i :: .ref o :: r => match (generalizing := false) layF o with
      | (5, n, [some q, some d]) => if inb i n then some ((pc + ilen (.aaload)), lv, .ref (q + d * i.toNatClampNeg) :: r, h) else none
      | (6, n, [some q, some d]) => if inb i n then some ((pc + ilen (.aaload)), lv, .ref (q + d * i.toNatClampNeg) :: r, h) else none
      | _ => none
    | _ => none) = some (pc', lv', st', h') := hs
  split at hs1
  · rename_i i o r
    split at hs1
    · rename_i n q d heq
      have ho := lay_lt heq (by decide) (by decide)
      have hE : encE z h o = .inl (z.2.1 q, n, .inr (.inr (.inr (.inr (fun j => some (z.2.2.1 (q + d * j))))))) := by unfold encE; rw [heq]; rfl
      have hget : (wd z h)[o]? = some (z.2.2.1 o, .inl (z.2.1 q, n, .inr (.inr (.inr (.inr (fun j => some (z.2.2.1 (q + d * j)))))))) := by rw [wd_get ho, hE]
      by_cases hb1 : inb i n = true
      · rw [if_pos hb1] at hs1
        cases hs1
        rcases lay_5 heq with rfl | rfl
        · exact va_aldq hx hb w0.1 hP o 4 hget rfl (inb_in hb1) hd (kk H locs ls hP hS hq hl)
        · exact va_aldq hx hb w0.1 hP o 5 hget rfl (inb_in hb1) hd (kk H locs ls hP hS hq hl)
      · rw [if_neg hb1] at hs1
        cases hs1
    · rename_i n q d heq
      have ho := lay_lt heq (by decide) (by decide)
      have hE : encE z h o = .inl (z.2.1 6, n, .inr (.inr (.inr (.inr (fun j => some (z.2.2.1 (q + d * j))))))) := by unfold encE; rw [heq]; rfl
      have hget : (wd z h)[o]? = some (z.2.2.1 o, .inl (z.2.1 6, n, .inr (.inr (.inr (.inr (fun j => some (z.2.2.1 (q + d * j)))))))) := by rw [wd_get ho, hE]
      by_cases hb1 : inb i n = true
      · rw [if_pos hb1] at hs1
        cases hs1
        have hlt : i.toNatClampNeg < n := Nat.not_le.mp fun q9 => inb_in hb1 (Or.inr q9)
        exact W.aald (v := va_rf (some (z.2.2.1 (q + d * i.toNatClampNeg)))) (ty := .array .int) hx hb (hP o _ hget) ((w0.1.2 6 _ rfl).1 n (fun j => va_rf (some (z.2.2.1 (q + d * j))))) rfl (fun q9 => by cases q9) (by show ¬ (i < 0 ∨ (arrV _ _ _).slots.size ≤ _); rw [arrV_size]; exact inb_in hb1) (by show (arrV _ _ _).slots[_]? = _; rw [arrV_read _ _ hlt]) rfl rfl hd (kk H locs ls hP hS hq hl)
      · rw [if_neg hb1] at hs1
        cases hs1
    · cases hs1
  · cases hs1
theorem st_arraylength  (C : CX k p s m args c) (w0 : WS z L xs s) (hw : WF z) (hR : 10 ≤ R.frames ∧ 200 ≤ R.locals ∧ cells ≤ R.cells ∧ slots ≤ R.slots) (hm : (miOf k).1 pc = some (.arraylength, nx, a, b, t, v, w)) (hs : pstep layF slenF schF (.arraylength, nx, a, b, t, v, w) lv st h = some (pc', lv', st', h')) 
    (kk : StepGoal p l e R s m args below meth c cells slots Q z k L xs pc' lv' st' h') : StepGoal p l e R s m args below meth c cells slots Q z k L xs pc lv st h := by
  obtain ⟨hx, hb, hml, hown, hts⟩ := C
  obtain ⟨hd, rfl, hi⟩ := chk3 (A := decode (ccOf k) pc = .ok (.arraylength, ilen (.arraylength))) (n := nx) (m := pc + ilen (.arraylength)) (B := Nat.blt (pidx (.arraylength)) 1000 && chkI k pc (.arraylength) a b t v w) (chkE_at hm)
  obtain ⟨hx0, hi⟩ := and2 hi
  have hx0 : pidx (.arraylength) < 1000 := blt_of hx0
  intro H locs ls hP hS hq hl
  have hs1 : (match (generalizing := false) st with
    | .ref o :: r => match (generalizing := false) layF o with
      | (1, n, _) => some ((pc + ilen (.arraylength)), lv, .int (Int32.ofNat n) :: r, h)
      | (2, n, _) => some ((pc + ilen (.arraylength)), lv, .int (Int32.ofNat n) :: r, h)
      | (3, n, _) => some ((pc + ilen (.arraylength)), lv, .int (Int32.ofNat n) :: r, h)
      | (5, n, _) => some ((pc + ilen (.arraylength)), lv, .int (Int32.ofNat n) :: r, h)
      | (7, _, _) => some ((pc + ilen (.arraylength)), lv, .int (h.1 (o + 1) 0) :: r, h)
      | _ => none
    | _ => none) = some (pc', lv', st', h') := hs
  split at hs1
  · rename_i o r
    split at hs1
    · rename_i n fs heq
      have ho := lay_lt heq (by decide) (by decide)
      have hE : encE z h o = .inl (z.2.1 1, n, .inl (h.1 o)) := by unfold encE; rw [heq]; rfl
      have hget : (wd z h)[o]? = some (z.2.2.1 o, .inl (z.2.1 1, n, .inl (h.1 o))) := by rw [wd_get ho, hE]
      cases hs1
      exact va_alen hx hb w0.1 hP o 0 hget rfl rfl hd (kk H locs ls hP hS hq hl)
    · rename_i n fs heq
      have ho := lay_lt heq (by decide) (by decide)
      have hE : encE z h o = .inl (z.2.1 2, n, .inl (h.1 o)) := by unfold encE; rw [heq]; rfl
      have hget : (wd z h)[o]? = some (z.2.2.1 o, .inl (z.2.1 2, n, .inl (h.1 o))) := by rw [wd_get ho, hE]
      cases hs1
      exact va_alen hx hb w0.1 hP o 1 hget rfl rfl hd (kk H locs ls hP hS hq hl)
    · rename_i n fs heq
      have ho := lay_lt heq (by decide) (by decide)
      have hE : encE z h o = .inl (z.2.1 3, n, .inl (h.1 o)) := by unfold encE; rw [heq]; rfl
      have hget : (wd z h)[o]? = some (z.2.2.1 o, .inl (z.2.1 3, n, .inl (h.1 o))) := by rw [wd_get ho, hE]
      cases hs1
      exact va_alen hx hb w0.1 hP o 2 hget rfl rfl hd (kk H locs ls hP hS hq hl)
    · rename_i n fs heq
      obtain ⟨q, d, rfl, hqq⟩ := lay_5f heq
      have ho := lay_lt heq (by decide) (by decide)
      have hE : encE z h o = .inl (z.2.1 q, n, .inr (.inr (.inr (.inr (fun j => some (z.2.2.1 (q + d * j))))))) := by unfold encE; rw [heq]; rfl
      have hget : (wd z h)[o]? = some (z.2.2.1 o, .inl (z.2.1 q, n, .inr (.inr (.inr (.inr (fun j => some (z.2.2.1 (q + d * j)))))))) := by rw [wd_get ho, hE]
      cases hs1
      rcases hqq with rfl | rfl
      · exact va_alen hx hb w0.1 hP o 4 hget rfl rfl hd (kk H locs ls hP hS hq hl)
      · exact va_alen hx hb w0.1 hP o 5 hget rfl rfl hd (kk H locs ls hP hS hq hl)
    · rename_i n fs heq
      obtain rfl := lay_7 heq
      cases hs1
      refine va_slen hx hb w0.2.2.1 w0.2.2.2 hw.2.2 hS hd ?_
      have k9 := (kk H locs ls hP hS hq hl)
      rw [show h.1 (167 + 1) 0 = nI L from hq.2] at k9
      exact k9
    · cases hs1
  · cases hs1
end STP2
