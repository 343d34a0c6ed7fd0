/-! THE LAW STOPS AT ITS LOOP'S HEAD: the rules of 41 once more: written by wip/p34/genlaw2.py -/
def gpwT (Cal : Nat → List gPV → gST → gPO → gST → Prop) (X : Nat → List Value → PH → PO → PH → Prop) (mi : gMI) (Q : gPO → gST → Prop) (PT9 : gLV → gST → Prop) : Nat → Nat → gLV → List gPV → gST → Prop
  | 0, pc, lv, st, s => pc = 4 ∧ st = [] ∧ PT9 lv s
  | n + 1, pc, lv, st, s => ∃ e, mi.1 pc = some e ∧ gsr Cal X mi e pc lv st s (gpwT Cal X mi Q PT9 n) Q
def GPWT (Cal : Nat → List gPV → gST → gPO → gST → Prop) (X : Nat → List Value → PH → PO → PH → Prop) (mi : gMI) (Q : gPO → gST → Prop) (PT9 : gLV → gST → Prop) (pc : Nat) (lv : gLV) (st : List gPV) (s : gST) : Prop := ∃ n, gpwT Cal X mi Q PT9 n pc lv st s
def GSimT {τ : Type} (Cal : Nat → List gPV → gST → gPO → gST → Prop) (X : Nat → List Value → PH → PO → PH → Prop) (mi : gMI) (Q : gPO → gST → Prop) (PT9 : gLV → gST → Prop) (x : Option τ) (G : τ → Prop) (pc : Nat) (lv : gLV) (st : List gPV) (s : gST) : Prop := ∀ t, x = some t → G t → GPWT Cal X mi Q PT9 pc lv st s
section GSIMT
variable {τ : Type} {Cal : Nat → List gPV → gST → gPO → gST → Prop} {X : Nat → List Value → PH → PO → PH → Prop} {mi : gMI} {Q : gPO → gST → Prop} {PT9 : gLV → gST → Prop} {x : Option τ} {G : τ → Prop} {pc : Nat} {lv : gLV} {st : List gPV} {s : gST} {e : PE}
theorem GPWT.stp {pc' : Nat} {lv' : gLV} {st' : List gPV} {s' : gST} (hc : mi.1 pc = some e) (hp : gstep e lv st s = some (pc', lv', st', s')) (k : GPWT Cal X mi Q PT9 pc' lv' st' s') : GPWT Cal X mi Q PT9 pc lv st s := by
  obtain ⟨n, hn⟩ := k
  exact ⟨n + 1, e, hc, Or.inl ⟨_, _, _, _, hp, hn⟩⟩
theorem GPWT.r {o : gPO} (hc : mi.1 pc = some e) (hp : gret mi.2.1 e st = some o) (k : Q o s) : GPWT Cal X mi Q PT9 pc lv st s :=
  ⟨1, e, hc, Or.inr (Or.inl ⟨o, hp, k⟩)⟩
theorem GPWT.m (m : List Bool) (hc : mi.1 pc = some e) (k : GPWT Cal X mi Q PT9 pc (gmask m lv) st s) : GPWT Cal X mi Q PT9 pc lv st s := by
  obtain ⟨n, hn⟩ := k
  exact ⟨n + 1, e, hc, Or.inr (Or.inr (Or.inl ⟨m, hn⟩))⟩
theorem GPWT.call {k : Nat} {as r : List gPV} {o : gPO} {s1 : gST} (hc : mi.1 pc = some e) (hp : gcall e st = some (k, as, r)) (hr : grecv s.2 as e.2.2.2.2.1 = true) (hz : gcat r ≤ 8) (hk : Cal k as s o s1)
    (kk : GPWT Cal X mi Q PT9 e.2.1 lv (o.toList ++ r) s1) : GPWT Cal X mi Q PT9 pc lv st s := by
  obtain ⟨n, hn⟩ := kk
  exact ⟨n + 1, e, hc, Or.inr (Or.inr (Or.inr (Or.inl ⟨k, as, r, o, s1, hp, hr, hz, hk, hn⟩)))⟩
theorem GPWT.xcall {k : Nat} {as r : List gPV} {v : Option Value} {h1 : PH} (hc : mi.1 pc = some e) (hp : gxcall e st = some (k, as, r)) (hr : gxok as = true) (hz : gcat r ≤ 8) (hk : X k (as.map gxv) s.1 (.inl v) h1)
    (kk : GPWT Cal X mi Q PT9 e.2.1 lv ((gxo v).toList ++ r) (h1, gBm s.2 (mcOf k))) : GPWT Cal X mi Q PT9 pc lv st s := by
  obtain ⟨n, hn⟩ := kk
  exact ⟨n + 1, e, hc, Or.inr (Or.inr (Or.inr (Or.inr ⟨k, as, r, v, h1, hp, hr, hz, hk, hn⟩)))⟩
/-- a plain instruction -/
theorem gST9 {pc' : Nat} {lv' : gLV} {st' : List gPV} {s' : gST} (hc : mi.1 pc = some e) (hp : gstep e lv st s = some (pc', lv', st', s')) (k : GSimT Cal X mi Q PT9 x G pc' lv' st' s') : GSimT Cal X mi Q PT9 x G pc lv st s :=
  fun t h1 h2 => GPWT.stp hc hp (k t h1 h2)
/-- a branch -/
theorem gBT9 {A B : Option τ} {p : Prop} [Decidable p] {pc1 pc2 : Nat} {st' : List gPV} (hc : mi.1 pc = some e) (hp : gstep e lv st s = if p then some (pc1, lv, st', s) else some (pc2, lv, st', s))
    (k1 : GSimT Cal X mi Q PT9 A G pc1 lv st' s) (k2 : GSimT Cal X mi Q PT9 B G pc2 lv st' s) : GSimT Cal X mi Q PT9 (if p then A else B) G pc lv st s := by
  intro t h1 h2
  by_cases q : p
  · rw [if_pos q] at hp h1
    exact GPWT.stp hc hp (k1 t h1 h2)
  · rw [if_neg q] at hp h1
    exact GPWT.stp hc hp (k2 t h1 h2)
/-- the branch is known by a premise -/
theorem gIfT9 {A B : Option τ} {p : Prop} [Decidable p] (k1 : p → GSimT Cal X mi Q PT9 A G pc lv st s) (k2 : ¬ p → GSimT Cal X mi Q PT9 B G pc lv st s) : GSimT Cal X mi Q PT9 (if p then A else B) G pc lv st s := by
  intro t h1 h2
  by_cases q : p
  · rw [if_pos q] at h1
    exact k1 q t h1 h2
  · rw [if_neg q] at h1
    exact k2 q t h1 h2
/-- an operation that may fail -/
theorem gOT9 {σ : Type} {y : Option σ} {K : σ → Option τ} {pc' : σ → Nat} {lv' : σ → gLV} {st' : σ → List gPV} {s' : σ → gST} (hc : mi.1 pc = some e) (hp : gstep e lv st s = y.map (fun z => (pc' z, lv' z, st' z, s' z)))
    (k : ∀ z, GSimT Cal X mi Q PT9 (K z) G (pc' z) (lv' z) (st' z) (s' z)) : GSimT Cal X mi Q PT9 (y.bind K) G pc lv st s := by
  intro t h1 h2
  obtain ⟨z, hz, h3⟩ := Option.bind_eq_some_iff.mp h1
  exact GPWT.stp hc (by rw [hp, hz]; rfl) (k z t h3 h2)
/-- nothing is said -/
theorem gNoT9 : GSimT Cal X mi Q PT9 (none : Option τ) G pc lv st s := fun t h1 _ => by cases h1
theorem gNbT9 {α : Type} {K : α → Option τ} : GSimT Cal X mi Q PT9 ((none : Option α).bind K) G pc lv st s := fun t h1 _ => by cases h1
theorem gSbT9 {α : Type} {q : α} {K : α → Option τ} (k : GSimT Cal X mi Q PT9 (K q) G pc lv st s) : GSimT Cal X mi Q PT9 ((some q).bind K) G pc lv st s := k
/-- the receiver's class, asked at the beginning -/
theorem gRcT9 {y : Option Unit} {K : Unit → Option τ} (k : GSimT Cal X mi Q PT9 (K ()) G pc lv st s) : GSimT Cal X mi Q PT9 (y.bind K) G pc lv st s := by
  intro t h1 h2
  obtain ⟨z, hz, h3⟩ := Option.bind_eq_some_iff.mp h1
  exact k t h3 h2
/-- a call -/
theorem gCT9 {σ : Type} {y : Option σ} {K : σ → Option τ} {vo : σ → gPO} {so : σ → gST} {k : Nat} {as r : List gPV} {st' : σ → List gPV} (hc : mi.1 pc = some e) (hp : gcall e st = some (k, as, r)) (hr : ∀ z, y = some z → grecv s.2 as e.2.2.2.2.1 = true) (hz : Nat.ble (gcat r) 8 = true)
    (hk : ∀ z, y = some z → Cal k as s (vo z) (so z)) (hs : ∀ z, (vo z).toList ++ r = st' z) (kk : ∀ z, GSimT Cal X mi Q PT9 (K z) G e.2.1 lv (st' z) (so z)) : GSimT Cal X mi Q PT9 (y.bind K) G pc lv st s := by
  intro t h1 h2
  obtain ⟨z, hz1, h3⟩ := Option.bind_eq_some_iff.mp h1
  refine GPWT.call hc hp (hr z hz1) (Nat.le_of_ble_eq_true hz) (hk z hz1) ?_
  rw [hs]
  exact kk z t h3 h2
/-- a call of the class -/
theorem gXT9 {σ : Type} {y : Option σ} {K : σ → Option τ} {vo : σ → Option Value} {ho : σ → PH} {k n : Nat} {as r : List gPV} {as' : List Value} {st' : σ → List gPV} {s' : σ → gST} (hc : mi.1 pc = some e) (hp : gxcall e st = some (k, as, r)) (hr : gxok as = true) (hz : Nat.ble (gcat r) 8 = true) (ha : as.map gxv = as') (hn : mcOf k = n)
    (hk : ∀ z, y = some z → X k as' s.1 (.inl (vo z)) (ho z)) (hs : ∀ z, (gxo (vo z)).toList ++ r = st' z) (hs' : ∀ z, (ho z, gBm s.2 n) = s' z) (kk : ∀ z, GSimT Cal X mi Q PT9 (K z) G e.2.1 lv (st' z) (s' z)) : GSimT Cal X mi Q PT9 (y.bind K) G pc lv st s := by
  intro t h1 h2
  obtain ⟨z, hz1, h3⟩ := Option.bind_eq_some_iff.mp h1
  subst ha
  subst hn
  refine GPWT.xcall hc hp hr (Nat.le_of_ble_eq_true hz) (hk z hz1) ?_
  rw [hs, hs']
  exact kk z t h3 h2
/-- .. that always comes to its answer -/
theorem gXtT9 {v : Option Value} {h1 : PH} {k n : Nat} {as r : List gPV} {as' : List Value} {st' : List gPV} {s' : gST} (hc : mi.1 pc = some e) (hp : gxcall e st = some (k, as, r)) (hr : gxok as = true) (hz : Nat.ble (gcat r) 8 = true) (ha : as.map gxv = as') (hn : mcOf k = n)
    (hk : X k as' s.1 (.inl v) h1) (hs : (gxo v).toList ++ r = st') (hs' : (h1, gBm s.2 n) = s') (kk : GSimT Cal X mi Q PT9 x G e.2.1 lv st' s') : GSimT Cal X mi Q PT9 x G pc lv st s := by
  subst ha
  subst hn
  intro t q1 q2
  refine GPWT.xcall hc hp hr (Nat.le_of_ble_eq_true hz) hk ?_
  rw [hs, hs']
  exact kk t q1 q2
/-- the end -/
theorem gRtT9 {o : gPO} {t0 : τ} (hc : mi.1 pc = some e) (hp : gret mi.2.1 e st = some o) (k : G t0 → Q o s) : GSimT Cal X mi Q PT9 (some t0) G pc lv st s :=
  fun t h1 h2 => GPWT.r hc hp (k (by cases h1; exact h2))
theorem gRmmT9 {y : Option Int32} {K : Int32 → τ} (hc : mi.1 pc = some e) (hp : gret mi.2.1 e st = y.map fun z => some (.inl z)) (k : ∀ z, G (K z) → Q (some (.inl z)) s) : GSimT Cal X mi Q PT9 (y.bind fun z => some (K z)) G pc lv st s := by
  intro t h1 h2
  obtain ⟨z, hz, h3⟩ := Option.bind_eq_some_iff.mp h1
  cases h3
  exact GPWT.r hc (by rw [hp, hz]; rfl) (k z h2)
/-- a jump to a loop's head, whose state is that of s -/
theorem gJT9 {σ τ' : Type} {P : σ → Prop} {G' : τ' → Prop} {s0 : σ} (k : P s0 → GPWT Cal X mi Q PT9 pc lv st s) : GSimT Cal X mi Q PT9 (some (Sum.inl s0 : σ ⊕ τ')) (gsum P G') pc lv st s :=
  fun t h1 h2 => k (by cases h1; exact h2)
theorem gUpT9 {σ : Type} {P : σ → Prop} {t0 : τ} (k : GSimT Cal X mi Q PT9 (some t0) G pc lv st s) : GSimT Cal X mi Q PT9 (some (Sum.inr t0 : σ ⊕ τ)) (gsum P G) pc lv st s :=
  fun t h1 h2 => k t0 rfl (by cases h1; exact h2)
/-- a loop -/
theorem gLT9 {σ : Type} {body : σ → Option (σ ⊕ τ)} {pc : Nat} {lv : σ → gLV} {s : σ → gST}
    (hb : ∀ z, GSimT Cal X mi Q PT9 (body z) (gsum (fun z => GPWT Cal X mi Q PT9 pc (lv z) [] (s z)) G) pc (lv z) [] (s z)) (z : σ) : GSimT Cal X mi Q PT9 (loop body z) G pc (lv z) [] (s z) := by
  intro t h1 h2
  obtain ⟨n, hn⟩ := loop_iff.mp h1
  clear h1
  induction n generalizing z with
  | zero => cases hn
  | succ n ih =>
    unfold loopN at hn
    cases hz : body z with
    | none => rw [hz] at hn; cases hn
    | some y =>
      rw [hz] at hn
      cases y with
      | inl s' => exact hb z _ hz (ih s' hn)
      | inr t' =>
        cases hn
        exact hb z _ hz h2
theorem gMT9 (m : List Bool) (hc : mi.1 pc = some e) (k : GSimT Cal X mi Q PT9 x G pc (gmask m lv) st s) : GSimT Cal X mi Q PT9 x G pc lv st s :=
  fun t h1 h2 => GPWT.m m hc (k t h1 h2)
theorem gMkT9 (m : List Bool) {lv' : gLV} (hc : mi.1 pc = some e) (hm : gmask m lv = lv') (k : GSimT Cal X mi Q PT9 x G pc lv' st s) : GSimT Cal X mi Q PT9 x G pc lv st s :=
  fun t h1 h2 => GPWT.m m hc (by rw [hm]; exact k t h1 h2)
theorem gJnT9 {α : Type} {K : α → Option τ} {f : (α → Option τ) → Option τ} (J : Nat) (lvJ : α → gLV) (stJ : α → List gPV) (sJ : α → gST) (hK : ∀ v, GSimT Cal X mi Q PT9 (K v) G J (lvJ v) (stJ v) (sJ v))
    (hf : ∀ k : α → Option τ, (∀ v, GSimT Cal X mi Q PT9 (k v) G J (lvJ v) (stJ v) (sJ v)) → GSimT Cal X mi Q PT9 (f k) G pc lv st s) : GSimT Cal X mi Q PT9 (jn K f) G pc lv st s := hf K hK
theorem gNT9 {σ : Type} {P : σ → Prop} (k : GSimT Cal X mi Q PT9 x G pc lv st s) : GSimT Cal X mi Q PT9 (x.map (Sum.inr : τ → σ ⊕ τ)) (gsum P G) pc lv st s := by
  intro t h1 h2
  obtain ⟨z, hz, rfl⟩ := Option.map_eq_some_iff.mp h1
  exact k z hz h2
/-- a switch, at no case's number -/
theorem gSwT9 {dd lo hi : Int} {offs : Array Int} {x2 : Int32} {nx a b tt : Nat} {vv : Int32} {ww : Int64} (hc : mi.1 pc = some (.tableswitch dd lo hi offs, nx, a, b, tt, vv, ww)) (hx : x2.toInt < lo ∨ hi < x2.toInt) (k : GSimT Cal X mi Q PT9 x G a lv st s) : GSimT Cal X mi Q PT9 x G pc lv (.inl x2 :: st) s :=
  gST9 hc (by simp only [gstep, if_pos hx]) k
theorem GPWT.stop (h : PT9 lv s) : GPWT Cal X mi Q PT9 4 lv [] s := ⟨0, rfl, rfl, h⟩
end GSIMT
