/-! THE FORMULA'S STEPS, as both readers write them -/
/-- l is written, p is reached, k values stand on the stack -/
def FK (g r : PH) (l : List Stq) (p k : Nat) : Prop := g.1 10 2 = nI l.length ∧ (∀ i s, l[i]? = some s → g.1 11 i = encS s) ∧ r.1 125 6 = nI (offs l) ∧ laid (r.1 125) 256 l ∧ (∀ s ∈ l, stOK s) ∧ l.length ≤ p ∧ 2 * offs l ≤ 3 * p + k ∧ ∀ c d : Int, ∃ st, evs c d l [] = some st ∧ st.length = k
/-- what the class's formula reader may write -/
def GC (h h' : PH) : Prop := Fr (fun a => a = 1 ∨ a = 10 ∨ a = 11) h h' ∧ ∀ j, ¬ ((5 ≤ j ∧ j ≤ 8) ∨ j = 10 ∨ j = 11) → h'.1 1 j = h.1 1 j
/-- and the reference's -/
def GR (h h' : PH) : Prop := Fr (fun a => a = 122 ∨ a = 125) h h' ∧ (∀ j, ¬ (j = 4 ∨ j = 5 ∨ j = 6 ∨ j = 13 ∨ j = 14) → h'.1 122 j = h.1 122 j) ∧ ∀ j, j < 256 → j ≠ 6 → h'.1 125 j = h.1 125 j
theorem GC.refl (h : PH) : GC h h := ⟨Fr.refl h, fun _ _ => rfl⟩
theorem GR.refl (h : PH) : GR h h := ⟨Fr.refl h, fun _ _ => rfl, fun _ _ _ => rfl⟩
theorem GC.trans {h h' h'' : PH} (f : GC h h') (g : GC h' h'') : GC h h'' := ⟨f.1.trans g.1, fun j hj => (g.2 j hj).trans (f.2 j hj)⟩
theorem GR.trans {h h' h'' : PH} (f : GR h h') (g : GR h' h'') : GR h h'' := ⟨f.1.trans g.1, fun j hj => (g.2.1 j hj).trans (f.2.1 j hj), fun j h1 h2 => (g.2.2 j h1 h2).trans (f.2.2 j h1 h2)⟩
theorem FE.GC {h h' : PH} (f : FE h h') : GC h h' := ⟨f.1.mono (fun i hi => Or.inl hi), f.2⟩
theorem FX.GR {h h' : PH} (f : FX h h') : GR h h' := ⟨f.1.mono (fun i hi => Or.inl hi), fun j hj => f.2 j (by omega), fun j _ _ => by rw [(f.1 125 (by omega)).1]⟩
section FRM
variable {b : Nat → Nat} {n : Nat} {g r : PH}
theorem JT.fr {p : Nat} {g' r' : PH} (J : JT b n g r p) (e1 : g'.1 1 = g.1 1) (e2 : g'.1 2 = g.1 2) (e3 : r'.1 122 = r.1 122) (e4 : r'.1 123 = r.1 123) : JT b n g' r' p := by
  unfold JT CB RB TK at J ⊢
  rw [e1, e2, e3, e4]
  exact J
theorem JB.fr {g' r' : PH} (J : JB b n g r) (e1 : g'.1 1 = g.1 1) (e2 : g'.1 2 = g.1 2) (e3 : r'.1 122 = r.1 122) (e4 : r'.1 123 = r.1 123) : JB b n g' r' := by
  unfold JB CB RB TK at J ⊢
  rw [e1, e2, e3, e4]
  exact J
theorem laid_snoc {f : Nat → Int32} : ∀ {p : Nat} {l : List Stq} {s : Stq}, laid f p l → f (p + offs l) = nI s.1 → (s.1 ≤ 1 → f (p + offs l + 1) = nI s.2) → laid f p (l ++ [s])
  | p, [], s, _, h1, h2 => ⟨h1, h2, trivial⟩
  | p, t :: l, s, h, h1, h2 => by
    obtain ⟨a, b, c⟩ := h
    have e : offs (t :: l) = wdt t + offs l := rfl
    rw [e] at h1 h2
    refine ⟨a, b, laid_snoc c ?_ ?_⟩
    · rw [show p + wdt t + offs l = p + (wdt t + offs l) by omega]; exact h1
    · rw [show p + wdt t + offs l = p + (wdt t + offs l) by omega]; exact h2
theorem c_add {v : Int32} {m : Nat} (h : g.1 10 2 = nI m) (hm : m < 700) : ∃ g', F_X0_addOperand g v = g' ∧ Fr (fun a => a = 10 ∨ a = 11) g g' ∧ g'.1 10 2 = nI (m + 1) ∧ ∀ i, g'.1 11 i = if i = m then v else g.1 11 i := by
  unfold F_X0_addOperand
  rw [h, put_in (by omega) hm, pu_get g 11 m v 10 2, if_neg (by omega), h, nI_1]
  refine ⟨_, rfl, (Fr.pu (Or.inr rfl)).trans (Fr.pu (Or.inl rfl)), by rw [pu_get, if_pos ⟨rfl, rfl⟩], fun i => ?_⟩
  rw [pu_get, if_neg (by omega), pu_get]
  by_cases z : i = m
  · rw [if_pos ⟨rfl, z⟩, if_pos z]
  · rw [if_neg (fun w => z w.2), if_neg z]
theorem c_addb {v : Int32} : ∃ g', F_X0_addOperand g v = g' ∧ Fr (fun a => a = 10 ∨ a = 11) g g' := by
  unfold F_X0_addOperand F_X7_put
  split
  · exact ⟨_, rfl, (Fr.pu (Or.inr rfl)).trans (Fr.pu (Or.inl rfl))⟩
  · exact ⟨_, rfl, Fr.pu (Or.inl rfl)⟩
theorem FK.mono {l : List Stq} {p p' k : Nat} {g' r' : PH} (F : FK g r l p k) (hp : p ≤ p') (e1 : g'.1 10 = g.1 10) (e2 : g'.1 11 = g.1 11) (e3 : r'.1 125 = r.1 125) : FK g' r' l p' k := by
  obtain ⟨f1, f2, f3, f4, f5, f6, f7, f8⟩ := F
  unfold FK
  rw [e1, e2, e3]
  exact ⟨f1, f2, f3, f4, f5, by omega, by omega, f8⟩
/-- two loops in step -/
theorem loop_pair {σ1 τ1 σ2 τ2 : Type} {B1 : σ1 → Option (σ1 ⊕ τ1)} {B2 : σ2 → Option (σ2 ⊕ τ2)} (R : Nat → σ1 → σ2 → Prop) (Q : τ1 → τ2 → Prop)
    (step : ∀ k s1 s2, R k s1 s2 → (∃ t1 t2, B1 s1 = some (.inr t1) ∧ B2 s2 = some (.inr t2) ∧ Q t1 t2) ∨ ∃ k' s1' s2', k' < k ∧ B1 s1 = some (.inl s1') ∧ B2 s2 = some (.inl s2') ∧ R k' s1' s2') :
    ∀ (k : Nat) (s1 : σ1) (s2 : σ2), R k s1 s2 → ∃ t1 t2, loop B1 s1 = some t1 ∧ loop B2 s2 = some t2 ∧ Q t1 t2 := by
  intro k
  induction k using Nat.strongRecOn with
  | ind k ih =>
    intro s1 s2 hR
    rcases step k s1 s2 hR with ⟨t1, t2, h1, h2, h3⟩ | ⟨k', s1', s2', hk, h1, h2, h3⟩
    · exact ⟨t1, t2, by rw [loop_eq, h1]; rfl, by rw [loop_eq, h2]; rfl, h3⟩
    · obtain ⟨t1, t2, h4, h5, h6⟩ := ih k' hk s1' s2' h3
      exact ⟨t1, t2, by rw [loop_eq, h1]; exact h4, by rw [loop_eq, h2]; exact h5, h6⟩
end FRM
