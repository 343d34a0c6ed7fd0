/-! THE FORMULA'S STEPS, as both readers write them -/
/-- l is written, p is reached, k values stand on the stack -/
def FK (g r : PH) (l : List Stq) (p k : Nat) : Prop := g.1 10 2 = nI l.length ∧ (∀ i s, l[i]? = some s → g.1 11 i = encS s) ∧ r.1 125 6 = nI (offs l) ∧ laid (r.1 125) 256 l ∧ (∀ s ∈ l, stOK s) ∧ l.length ≤ p ∧ 2 * offs l ≤ 3 * p + k ∧ ∀ c d : Int, ∃ st, evs c d l [] = some st ∧ st.length = k
/-- what the class's formula reader may write -/
def GC (h h' : PH) : Prop := Fr (fun a => a = 1 ∨ a = 10 ∨ a = 11) h h' ∧ ∀ j, ¬ ((5 ≤ j ∧ j ≤ 8) ∨ j = 10 ∨ j = 11) → h'.1 1 j = h.1 1 j
/-- and the reference's -/
def GR (h h' : PH) : Prop := Fr (fun a => a = 122 ∨ a = 125) h h' ∧ (∀ j, ¬ (j = 4 ∨ j = 5 ∨ j = 6 ∨ j = 13 ∨ j = 14) → h'.1 122 j = h.1 122 j) ∧ ∀ j, j < 256 → j ≠ 6 → h'.1 125 j = h.1 125 j
theorem GC.refl (h : PH) : GC h h := ⟨Fr.refl h, fun _ _ => rfl⟩
theorem GR.refl (h : PH) : GR h h := ⟨Fr.refl h, fun _ _ => rfl, fun _ _ _ => rfl⟩
theorem GC.trans {h h' h'' : PH} (f : GC h h') (g : GC h' h'') : GC h h'' := ⟨f.1.trans g.1, fun j hj => (g.2 j hj).trans (f.2 j hj)⟩
theorem GR.trans {h h' h'' : PH} (f : GR h h') (g : GR h' h'') : GR h h'' := ⟨f.1.trans g.1, fun j hj => (g.2.1 j hj).trans (f.2.1 j hj), fun j h1 h2 => (g.2.2 j h1 h2).trans (f.2.2 j h1 h2)⟩
theorem FE.GC {h h' : PH} (f : FE h h') : GC h h' := ⟨f.1.mono (fun i hi => Or.inl hi), f.2⟩
theorem FX.GR {h h' : PH} (f : FX h h') : GR h h' := ⟨f.1.mono (fun i hi => Or.inl hi), fun j hj => f.2 j (by omega), fun j _ _ => by rw [(f.1 125 (by omega)).1]⟩
section FRM
variable {b : Nat → Nat} {n : Nat} {g r : PH}
theorem JT.fr {p : Nat} {g' r' : PH} (J : JT b n g r p) (e1 : g'.1 1 = g.1 1) (e2 : g'.1 2 = g.1 2) (e3 : r'.1 122 = r.1 122) (e4 : r'.1 123 = r.1 123) : JT b n g' r' p := by
  unfold JT CB RB TK at J ⊢
  rw [e1, e2, e3, e4]
  exact J
theorem JB.fr {g' r' : PH} (J : JB b n g r) (e1 : g'.1 1 = g.1 1) (e2 : g'.1 2 = g.1 2) (e3 : r'.1 122 = r.1 122) (e4 : r'.1 123 = r.1 123) : JB b n g' r' := by
  unfold JB CB RB TK at J ⊢
  rw [e1, e2, e3, e4]
  exact J
theorem laid_snoc {f : Nat → Int32} : ∀ {p : Nat} {l : List Stq} {s : Stq}, laid f p l → f (p + offs l) = nI s.1 → (s.1 ≤ 1 → f (p + offs l + 1) = nI s.2) → laid f p (l ++ [s])
  | p, [], s, _, h1, h2 => ⟨h1, h2, trivial⟩
  | p, t :: l, s, h, h1, h2 => by
    obtain ⟨a, b, c⟩ := h
    have e : offs (t :: l) = wdt t + offs l := rfl
    rw [e] at h1 h2
    refine ⟨a, b, laid_snoc c ?_ ?_⟩
    · rw [show p + wdt t + offs l = p + (wdt t + offs l) by omega]; exact h1
    · rw [show p + wdt t + offs l = p + (wdt t + offs l) by omega]; exact h2
theorem c_add {v : Int32} {m : Nat} (h : g.1 10 2 = nI m) (hm : m < 700) : ∃ g', F_X0_addOperand g v = g' ∧ Fr (fun a => a = 10 ∨ a = 11) g g' ∧ g'.1 10 2 = nI (m + 1) ∧ ∀ i, g'.1 11 i = if i = m then v else g.1 11 i := by
  unfold F_X0_addOperand
  rw [h, put_in (by omega) hm, pu_get g 11 m v 10 2, if_neg (by omega), h, nI_1]
  refine ⟨_, rfl, (Fr.pu (Or.inr rfl)).trans (Fr.pu (Or.inl rfl)), by rw [pu_get, if_pos ⟨rfl, rfl⟩], fun i => ?_⟩
  rw [pu_get, if_neg (by omega), pu_get]
  by_cases z : i = m
  · rw [if_pos ⟨rfl, z⟩, if_pos z]
  · rw [if_neg (fun w => z w.2), if_neg z]
theorem c_addb {v : Int32} : ∃ g', F_X0_addOperand g v = g' ∧ Fr (fun a => a = 10 ∨ a = 11) g g' := by
  unfold F_X0_addOperand F_X7_put
  split
  · exact ⟨_, rfl, (Fr.pu (Or.inr rfl)).trans (Fr.pu (Or.inl rfl))⟩
  · exact ⟨_, rfl, Fr.pu (Or.inl rfl)⟩
theorem r_emit {v : Int32} {m : Nat} (h5 : r.1 122 5 = 0) (h : r.1 125 6 = nI m) (hm : m < 1300) : F_X8_emit r v = some (pu (pu r 125 (256 + m) v) 125 6 (nI (m + 1))) := by
  unfold F_X8_emit
  rw [good_0 h5, if_pos (by decide), i6, ald_in (by omega) (by omega), Option.bind_some, h, i256, nI_add, ast_in (by omega) (by omega), Option.bind_some, ald_in (by omega) (by omega), Option.bind_some, pu_get, if_neg (fun z => by omega), h, nI_1, ast_in (by omega) (by omega), Option.bind_some]
theorem r_emitb {v : Int32} (h5 : r.1 122 5 ≠ 0) : F_X8_emit r v = some r := by
  unfold F_X8_emit
  rw [good_1 h5, if_neg (fun z => z rfl)]
/-- a value laid on the stack, by both -/
theorem f_push {l : List Stq} {s : Stq} {p p' k : Nat} (F : FK g r l p k) (h5 : r.1 122 5 = 0) (hs : s.1 ≤ 1) (ok : stOK s) (hp : p < p') (hpn : p' ≤ 700) (hk : k < 11) : ∃ g' r', F_X0_addOperand g (encS s) = g' ∧ ((F_X8_emit r (nI s.1)).bind fun h9 => (F_X8_emit h9 (nI s.2)).bind fun h10 => some (h10)) = some r' ∧ Fr (fun a => a = 10 ∨ a = 11) g g' ∧ Fr (fun a => a = 125) r r' ∧ (∀ j, j < 256 → j ≠ 6 → r'.1 125 j = r.1 125 j) ∧ FK g' r' (l ++ [s]) p' (k + 1) := by
  obtain ⟨f1, f2, f3, f4, f5, f6, f7, f8⟩ := F
  obtain ⟨g', e1, e2, e3, e4⟩ := c_add (v := encS s) f1 (by omega)
  have hw : wdt s = 2 := if_pos hs
  have ho : offs (l ++ [s]) = offs l + 2 := by rw [offs_app]; show offs l + (wdt s + 0) = _; rw [hw]
  have hl : (l ++ [s]).length = l.length + 1 := by rw [List.length_append]; rfl
  have m1 : (pu (pu r 125 (256 + offs l) (nI s.1)) 125 6 (nI (offs l + 1))).1 125 6 = nI (offs l + 1) := by rw [pu_get, if_pos ⟨rfl, rfl⟩]
  have m5 : (pu (pu r 125 (256 + offs l) (nI s.1)) 125 6 (nI (offs l + 1))).1 122 5 = 0 := by rw [pu_get, if_neg (by omega), pu_get, if_neg (by omega), h5]
  rw [r_emit h5 f3 (by omega), Option.bind_some, r_emit m5 m1 (by omega), Option.bind_some]
  generalize hr : pu (pu (pu (pu r 125 (256 + offs l) (nI s.1)) 125 6 (nI (offs l + 1))) 125 (256 + (offs l + 1)) (nI s.2)) 125 6 (nI (offs l + 1 + 1)) = r'
  have fr : Fr (fun a => a = 125) r r' := by rw [← hr]; exact (((Fr.pu (S := fun a => a = 125) rfl).trans (Fr.pu (S := fun a => a = 125) rfl)).trans (Fr.pu (S := fun a => a = 125) rfl)).trans (Fr.pu (S := fun a => a = 125) rfl)
  have cell : ∀ j, r'.1 125 j = if j = 6 then nI (offs l + 2) else if j = 256 + offs l + 1 then nI s.2 else if j = 256 + offs l then nI s.1 else r.1 125 j := fun j => by
    rw [← hr, pu_get]
    by_cases z : j = 6
    · rw [if_pos ⟨rfl, z⟩, if_pos z]
    · rw [if_neg (fun w => z w.2), if_neg z, pu_get]
      by_cases z2 : j = 256 + offs l + 1
      · rw [if_pos ⟨rfl, by omega⟩, if_pos z2]
      · rw [if_neg (fun w => z2 (by omega)), if_neg z2, pu_get, if_neg (fun w => z w.2), pu_get]
        by_cases z3 : j = 256 + offs l
        · rw [if_pos ⟨rfl, z3⟩, if_pos z3]
        · rw [if_neg (fun w => z3 w.2), if_neg z3]
  clear hr
  refine ⟨g', r', e1, rfl, e2, fr, fun j h1 h2 => by rw [cell, if_neg h2, if_neg (by omega), if_neg (by omega)], by rw [e3, hl], fun i u hu => ?_, by rw [cell, if_pos rfl, ho], ?_, fun u hu => ?_, by omega, by omega, fun c d => ?_⟩
  · rw [e4]
    rcases Nat.lt_or_ge i l.length with z | z
    · rw [if_neg (by omega)]
      rw [List.getElem?_append_left z] at hu
      exact f2 i u hu
    · rw [List.getElem?_append_right z] at hu
      have : i = l.length := by
        rcases Nat.lt_or_ge (i - l.length) 1 with y | y
        · omega
        · rw [List.getElem?_eq_none (by show 1 ≤ i - l.length; exact y)] at hu; cases hu
      subst this
      rw [Nat.sub_self] at hu
      cases hu
      exact if_pos rfl
  · refine laid_snoc (laid_ag2 (fun j h1 h2 => ?_) f4) ?_ (fun _ => ?_)
    · rw [cell, if_neg (by omega), if_neg (by omega), if_neg (by omega)]
    · rw [cell, if_neg (by omega), if_neg (by omega), if_pos rfl]
    · rw [cell, if_neg (by omega), if_pos rfl]
  · rcases List.mem_append.mp hu with z | z
    · exact f5 u z
    · rw [List.mem_singleton.mp z]; exact ok
  · obtain ⟨st, s1, s2⟩ := f8 c d
    refine ⟨opv c d s :: st, ?_, by rw [List.length_cons, s2]⟩
    rw [evs_app, s1, Option.bind_some]
    unfold evs
    rw [if_pos hs, if_pos (by omega)]
    rfl
/-- an operation on the two topmost, by both -/
theorem f_oper {l : List Stq} {o p p' k : Nat} (F : FK g r l p (k + 2)) (h5 : r.1 122 5 = 0) (ho : 2 ≤ o ∧ o ≤ 5) (hp : l.length < p') (hp2 : 2 * offs l + 2 ≤ 3 * p' + (k + 1)) (hpn : p' ≤ 700) (hk : k ≤ 11) : ∃ g' r', F_X0_addOperator g (nI (sgn o)) = g' ∧ F_X8_emit r (nI o) = some r' ∧ Fr (fun a => a = 10 ∨ a = 11) g g' ∧ Fr (fun a => a = 125) r r' ∧ (∀ j, j < 256 → j ≠ 6 → r'.1 125 j = r.1 125 j) ∧ FK g' r' (l ++ [(o, 0)]) p' (k + 1) := by
  obtain ⟨f1, f2, f3, f4, f5, f6, f7, f8⟩ := F
  have es : encS (o, 0) = -(nI (sgn o)) := by
    unfold encS
    rw [if_neg (show ¬ o = 0 by omega), if_neg (show ¬ o = 1 by omega)]
  obtain ⟨g', e1, e2, e3, e4⟩ := c_add (v := encS (o, 0)) f1 (by omega)
  have hw : wdt (o, 0) = 1 := if_neg (show ¬ o ≤ 1 by omega)
  have hof : offs (l ++ [(o, 0)]) = offs l + 1 := by rw [offs_app]; show offs l + (wdt (o, 0) + 0) = _; rw [hw]
  have hl : (l ++ [(o, 0)]).length = l.length + 1 := by rw [List.length_append]; rfl
  rw [r_emit h5 f3 (by omega)]
  generalize hr : pu (pu r 125 (256 + offs l) (nI o)) 125 6 (nI (offs l + 1)) = r'
  have fr : Fr (fun a => a = 125) r r' := by rw [← hr]; exact (Fr.pu (S := fun a => a = 125) rfl).trans (Fr.pu (S := fun a => a = 125) rfl)
  have cell : ∀ j, r'.1 125 j = if j = 6 then nI (offs l + 1) else if j = 256 + offs l then nI o else r.1 125 j := fun j => by
    rw [← hr, pu_get]
    by_cases z : j = 6
    · rw [if_pos ⟨rfl, z⟩, if_pos z]
    · rw [if_neg (fun w => z w.2), if_neg z, pu_get]
      by_cases z3 : j = 256 + offs l
      · rw [if_pos ⟨rfl, z3⟩, if_pos z3]
      · rw [if_neg (fun w => z3 w.2), if_neg z3]
  clear hr
  refine ⟨g', r', ?_, rfl, e2, fr, fun j h1 h2 => by rw [cell, if_neg h2, if_neg (by omega)], by rw [e3, hl], fun i u hu => ?_, by rw [cell, if_pos rfl, hof], ?_, fun u hu => ?_, by omega, by omega, fun c d => ?_⟩
  · rw [← e1, es]
    rfl
  · rw [e4]
    rcases Nat.lt_or_ge i l.length with z | z
    · rw [if_neg (by omega)]
      rw [List.getElem?_append_left z] at hu
      exact f2 i u hu
    · rw [List.getElem?_append_right z] at hu
      have : i = l.length := by
        rcases Nat.lt_or_ge (i - l.length) 1 with y | y
        · omega
        · rw [List.getElem?_eq_none (by show 1 ≤ i - l.length; exact y)] at hu; cases hu
      subst this
      rw [Nat.sub_self] at hu
      cases hu
      exact if_pos rfl
  · refine laid_snoc (laid_ag2 (fun j h1 h2 => ?_) f4) ?_ (fun z => ?_)
    · rw [cell, if_neg (by omega), if_neg (by omega)]
    · rw [cell, if_neg (by omega), if_pos rfl]
    · have z : o ≤ 1 := z
      omega
  · rcases List.mem_append.mp hu with z | z
    · exact f5 u z
    · rw [List.mem_singleton.mp z]
      exact ⟨ho.2, fun w => by have w : o = 0 := w; omega, fun w => by have w : o = 1 := w; omega⟩
  · obtain ⟨st, s1, s2⟩ := f8 c d
    match st, s2 with
    | x :: y :: rest, s2 =>
      refine ⟨apo o y x :: rest, ?_, ?_⟩
      · rw [evs_app, s1, Option.bind_some]
        unfold evs
        rw [if_neg (show ¬ o ≤ 1 by omega)]
        rfl
      · rw [List.length_cons, List.length_cons] at s2
        rw [List.length_cons]
        omega
    | [x], s2 => rw [List.length_singleton] at s2; omega
    | [], s2 => rw [List.length_nil] at s2; omega
theorem FK.mono {l : List Stq} {p p' k : Nat} {g' r' : PH} (F : FK g r l p k) (hp : p ≤ p') (e1 : g'.1 10 = g.1 10) (e2 : g'.1 11 = g.1 11) (e3 : r'.1 125 = r.1 125) : FK g' r' l p' k := by
  obtain ⟨f1, f2, f3, f4, f5, f6, f7, f8⟩ := F
  unfold FK
  rw [e1, e2, e3]
  exact ⟨f1, f2, f3, f4, f5, by omega, by omega, f8⟩
/-- two loops in step -/
theorem loop_pair {σ1 τ1 σ2 τ2 : Type} {B1 : σ1 → Option (σ1 ⊕ τ1)} {B2 : σ2 → Option (σ2 ⊕ τ2)} (R : Nat → σ1 → σ2 → Prop) (Q : τ1 → τ2 → Prop)
    (step : ∀ k s1 s2, R k s1 s2 → (∃ t1 t2, B1 s1 = some (.inr t1) ∧ B2 s2 = some (.inr t2) ∧ Q t1 t2) ∨ ∃ k' s1' s2', k' < k ∧ B1 s1 = some (.inl s1') ∧ B2 s2 = some (.inl s2') ∧ R k' s1' s2') :
    ∀ (k : Nat) (s1 : σ1) (s2 : σ2), R k s1 s2 → ∃ t1 t2, loop B1 s1 = some t1 ∧ loop B2 s2 = some t2 ∧ Q t1 t2 := by
  intro k
  induction k using Nat.strongRecOn with
  | ind k ih =>
    intro s1 s2 hR
    rcases step k s1 s2 hR with ⟨t1, t2, h1, h2, h3⟩ | ⟨k', s1', s2', hk, h1, h2, h3⟩
    · exact ⟨t1, t2, by rw [loop_eq, h1]; rfl, by rw [loop_eq, h2]; rfl, h3⟩
    · obtain ⟨t1, t2, h4, h5, h6⟩ := ih k' hk s1' s2' h3
      exact ⟨t1, t2, by rw [loop_eq, h1]; exact h4, by rw [loop_eq, h2]; exact h5, h6⟩
end FRM
