/-! WHAT A METHOD OF THE SECOND MACHINE COMES TO -/
def gsr (Cal : Nat → List gPV → gST → gPO → gST → Prop) (X : Nat → List Value → PH → PO → PH → Prop) (mi : gMI) (e : PE) (pc : Nat) (lv : gLV) (st : List gPV) (s : gST) (K : Nat → gLV → List gPV → gST → Prop) (Q : gPO → gST → Prop) : Prop :=
  (∃ (pc' : Nat) (lv' : gLV) (st' : List gPV) (s' : gST), gstep e lv st s = some (pc', lv', st', s') ∧ K pc' lv' st' s') ∨
  (∃ o, gret mi.2.1 e st = some o ∧ Q o s) ∨
  (∃ m, K pc (gmask m lv) st s) ∨
  (∃ (k : Nat) (as r : List gPV) (o : gPO) (s1 : gST), gcall e st = some (k, as, r) ∧ grecv s.2 as e.2.2.2.2.1 = true ∧ gcat r ≤ 8 ∧ Cal k as s o s1 ∧ K e.2.1 lv (o.toList ++ r) s1) ∨
  (∃ (k : Nat) (as r : List gPV) (v : Option Value) (h1 : PH), gxcall e st = some (k, as, r) ∧ gxok as = true ∧ gcat r ≤ 8 ∧ X k (as.map gxv) s.1 (.inl v) h1 ∧ K e.2.1 lv ((gxo v).toList ++ r) (h1, gBm s.2 (mcOf k)))
def gpw (Cal : Nat → List gPV → gST → gPO → gST → Prop) (X : Nat → List Value → PH → PO → PH → Prop) (mi : gMI) (Q : gPO → gST → Prop) : Nat → Nat → gLV → List gPV → gST → Prop
  | 0, _, _, _, _ => False
  | n + 1, pc, lv, st, s => ∃ e, mi.1 pc = some e ∧ gsr Cal X mi e pc lv st s (gpw Cal X mi Q n) Q
def GPW (Cal : Nat → List gPV → gST → gPO → gST → Prop) (X : Nat → List Value → PH → PO → PH → Prop) (mi : gMI) (Q : gPO → gST → Prop) (pc : Nat) (lv : gLV) (st : List gPV) (s : gST) : Prop := ∃ n, gpw Cal X mi Q n pc lv st s
def GSim {τ : Type} (Cal : Nat → List gPV → gST → gPO → gST → Prop) (X : Nat → List Value → PH → PO → PH → Prop) (mi : gMI) (Q : gPO → gST → Prop) (x : Option τ) (G : τ → Prop) (pc : Nat) (lv : gLV) (st : List gPV) (s : gST) : Prop := ∀ t, x = some t → G t → GPW Cal X mi Q pc lv st s
section GSIM
variable {τ : Type} {Cal : Nat → List gPV → gST → gPO → gST → Prop} {X : Nat → List Value → PH → PO → PH → Prop} {mi : gMI} {Q : gPO → gST → Prop} {x : Option τ} {G : τ → Prop} {pc : Nat} {lv : gLV} {st : List gPV} {s : gST} {e : PE}
theorem GPW.stp {pc' : Nat} {lv' : gLV} {st' : List gPV} {s' : gST} (hc : mi.1 pc = some e) (hp : gstep e lv st s = some (pc', lv', st', s')) (k : GPW Cal X mi Q pc' lv' st' s') : GPW Cal X mi Q pc lv st s := by
  obtain ⟨n, hn⟩ := k
  exact ⟨n + 1, e, hc, Or.inl ⟨_, _, _, _, hp, hn⟩⟩
theorem GPW.r {o : gPO} (hc : mi.1 pc = some e) (hp : gret mi.2.1 e st = some o) (k : Q o s) : GPW Cal X mi Q pc lv st s :=
  ⟨1, e, hc, Or.inr (Or.inl ⟨o, hp, k⟩)⟩
theorem GPW.m (m : List Bool) (hc : mi.1 pc = some e) (k : GPW Cal X mi Q pc (gmask m lv) st s) : GPW Cal X mi Q pc lv st s := by
  obtain ⟨n, hn⟩ := k
  exact ⟨n + 1, e, hc, Or.inr (Or.inr (Or.inl ⟨m, hn⟩))⟩
theorem GPW.call {k : Nat} {as r : List gPV} {o : gPO} {s1 : gST} (hc : mi.1 pc = some e) (hp : gcall e st = some (k, as, r)) (hr : grecv s.2 as e.2.2.2.2.1 = true) (hz : gcat r ≤ 8) (hk : Cal k as s o s1)
    (kk : GPW Cal X mi Q e.2.1 lv (o.toList ++ r) s1) : GPW Cal X mi Q pc lv st s := by
  obtain ⟨n, hn⟩ := kk
  exact ⟨n + 1, e, hc, Or.inr (Or.inr (Or.inr (Or.inl ⟨k, as, r, o, s1, hp, hr, hz, hk, hn⟩)))⟩
theorem GPW.xcall {k : Nat} {as r : List gPV} {v : Option Value} {h1 : PH} (hc : mi.1 pc = some e) (hp : gxcall e st = some (k, as, r)) (hr : gxok as = true) (hz : gcat r ≤ 8) (hk : X k (as.map gxv) s.1 (.inl v) h1)
    (kk : GPW Cal X mi Q e.2.1 lv ((gxo v).toList ++ r) (h1, gBm s.2 (mcOf k))) : GPW Cal X mi Q pc lv st s := by
  obtain ⟨n, hn⟩ := kk
  exact ⟨n + 1, e, hc, Or.inr (Or.inr (Or.inr (Or.inr ⟨k, as, r, v, h1, hp, hr, hz, hk, hn⟩)))⟩
/-- a plain instruction -/
theorem gS {pc' : Nat} {lv' : gLV} {st' : List gPV} {s' : gST} (hc : mi.1 pc = some e) (hp : gstep e lv st s = some (pc', lv', st', s')) (k : GSim Cal X mi Q x G pc' lv' st' s') : GSim Cal X mi Q x G pc lv st s :=
  fun t h1 h2 => GPW.stp hc hp (k t h1 h2)
/-- a branch -/
theorem gB {A B : Option τ} {p : Prop} [Decidable p] {pc1 pc2 : Nat} {st' : List gPV} (hc : mi.1 pc = some e) (hp : gstep e lv st s = if p then some (pc1, lv, st', s) else some (pc2, lv, st', s))
    (k1 : GSim Cal X mi Q A G pc1 lv st' s) (k2 : GSim Cal X mi Q B G pc2 lv st' s) : GSim Cal X mi Q (if p then A else B) G pc lv st s := by
  intro t h1 h2
  by_cases q : p
  · rw [if_pos q] at hp h1
    exact GPW.stp hc hp (k1 t h1 h2)
  · rw [if_neg q] at hp h1
    exact GPW.stp hc hp (k2 t h1 h2)
/-- the branch is known by a premise -/
theorem gIf {A B : Option τ} {p : Prop} [Decidable p] (k1 : p → GSim Cal X mi Q A G pc lv st s) (k2 : ¬ p → GSim Cal X mi Q B G pc lv st s) : GSim Cal X mi Q (if p then A else B) G pc lv st s := by
  intro t h1 h2
  by_cases q : p
  · rw [if_pos q] at h1
    exact k1 q t h1 h2
  · rw [if_neg q] at h1
    exact k2 q t h1 h2
/-- an operation that may fail -/
theorem gO {σ : Type} {y : Option σ} {K : σ → Option τ} {pc' : σ → Nat} {lv' : σ → gLV} {st' : σ → List gPV} {s' : σ → gST} (hc : mi.1 pc = some e) (hp : gstep e lv st s = y.map (fun z => (pc' z, lv' z, st' z, s' z)))
    (k : ∀ z, GSim Cal X mi Q (K z) G (pc' z) (lv' z) (st' z) (s' z)) : GSim Cal X mi Q (y.bind K) G pc lv st s := by
  intro t h1 h2
  obtain ⟨z, hz, h3⟩ := Option.bind_eq_some_iff.mp h1
  exact GPW.stp hc (by rw [hp, hz]; rfl) (k z t h3 h2)
/-- nothing is said -/
theorem gNo : GSim Cal X mi Q (none : Option τ) G pc lv st s := fun t h1 _ => by cases h1
theorem gNb {α : Type} {K : α → Option τ} : GSim Cal X mi Q ((none : Option α).bind K) G pc lv st s := fun t h1 _ => by cases h1
theorem gSb {α : Type} {q : α} {K : α → Option τ} (k : GSim Cal X mi Q (K q) G pc lv st s) : GSim Cal X mi Q ((some q).bind K) G pc lv st s := k
/-- the receiver's class, asked at the beginning -/
theorem gRc {y : Option Unit} {K : Unit → Option τ} (k : GSim Cal X mi Q (K ()) G pc lv st s) : GSim Cal X mi Q (y.bind K) G pc lv st s := by
  intro t h1 h2
  obtain ⟨z, hz, h3⟩ := Option.bind_eq_some_iff.mp h1
  exact k t h3 h2
/-- a call -/
theorem gC {σ : Type} {y : Option σ} {K : σ → Option τ} {vo : σ → gPO} {so : σ → gST} {k : Nat} {as r : List gPV} {st' : σ → List gPV} (hc : mi.1 pc = some e) (hp : gcall e st = some (k, as, r)) (hr : ∀ z, y = some z → grecv s.2 as e.2.2.2.2.1 = true) (hz : Nat.ble (gcat r) 8 = true)
    (hk : ∀ z, y = some z → Cal k as s (vo z) (so z)) (hs : ∀ z, (vo z).toList ++ r = st' z) (kk : ∀ z, GSim Cal X mi Q (K z) G e.2.1 lv (st' z) (so z)) : GSim Cal X mi Q (y.bind K) G pc lv st s := by
  intro t h1 h2
  obtain ⟨z, hz1, h3⟩ := Option.bind_eq_some_iff.mp h1
  refine GPW.call hc hp (hr z hz1) (Nat.le_of_ble_eq_true hz) (hk z hz1) ?_
  rw [hs]
  exact kk z t h3 h2
/-- a call of the class -/
theorem gX {σ : Type} {y : Option σ} {K : σ → Option τ} {vo : σ → Option Value} {ho : σ → PH} {k n : Nat} {as r : List gPV} {as' : List Value} {st' : σ → List gPV} {s' : σ → gST} (hc : mi.1 pc = some e) (hp : gxcall e st = some (k, as, r)) (hr : gxok as = true) (hz : Nat.ble (gcat r) 8 = true) (ha : as.map gxv = as') (hn : mcOf k = n)
    (hk : ∀ z, y = some z → X k as' s.1 (.inl (vo z)) (ho z)) (hs : ∀ z, (gxo (vo z)).toList ++ r = st' z) (hs' : ∀ z, (ho z, gBm s.2 n) = s' z) (kk : ∀ z, GSim Cal X mi Q (K z) G e.2.1 lv (st' z) (s' z)) : GSim Cal X mi Q (y.bind K) G pc lv st s := by
  intro t h1 h2
  obtain ⟨z, hz1, h3⟩ := Option.bind_eq_some_iff.mp h1
  subst ha
  subst hn
  refine GPW.xcall hc hp hr (Nat.le_of_ble_eq_true hz) (hk z hz1) ?_
  rw [hs, hs']
  exact kk z t h3 h2
/-- .. that always comes to its answer -/
theorem gXt {v : Option Value} {h1 : PH} {k n : Nat} {as r : List gPV} {as' : List Value} {st' : List gPV} {s' : gST} (hc : mi.1 pc = some e) (hp : gxcall e st = some (k, as, r)) (hr : gxok as = true) (hz : Nat.ble (gcat r) 8 = true) (ha : as.map gxv = as') (hn : mcOf k = n)
    (hk : X k as' s.1 (.inl v) h1) (hs : (gxo v).toList ++ r = st') (hs' : (h1, gBm s.2 n) = s') (kk : GSim Cal X mi Q x G e.2.1 lv st' s') : GSim Cal X mi Q x G pc lv st s := by
  subst ha
  subst hn
  intro t q1 q2
  refine GPW.xcall hc hp hr (Nat.le_of_ble_eq_true hz) hk ?_
  rw [hs, hs']
  exact kk t q1 q2
/-- the end -/
theorem gRt {o : gPO} {t0 : τ} (hc : mi.1 pc = some e) (hp : gret mi.2.1 e st = some o) (k : G t0 → Q o s) : GSim Cal X mi Q (some t0) G pc lv st s :=
  fun t h1 h2 => GPW.r hc hp (k (by cases h1; exact h2))
theorem gRmm {y : Option Int32} {K : Int32 → τ} (hc : mi.1 pc = some e) (hp : gret mi.2.1 e st = y.map fun z => some (.inl z)) (k : ∀ z, G (K z) → Q (some (.inl z)) s) : GSim Cal X mi Q (y.bind fun z => some (K z)) G pc lv st s := by
  intro t h1 h2
  obtain ⟨z, hz, h3⟩ := Option.bind_eq_some_iff.mp h1
  cases h3
  exact GPW.r hc (by rw [hp, hz]; rfl) (k z h2)
/-- a jump to a loop's head, whose state is that of s -/
theorem gJ {σ τ' : Type} {P : σ → Prop} {G' : τ' → Prop} {s0 : σ} (k : P s0 → GPW Cal X mi Q pc lv st s) : GSim Cal X mi Q (some (Sum.inl s0 : σ ⊕ τ')) (gsum P G') pc lv st s :=
  fun t h1 h2 => k (by cases h1; exact h2)
theorem gUp {σ : Type} {P : σ → Prop} {t0 : τ} (k : GSim Cal X mi Q (some t0) G pc lv st s) : GSim Cal X mi Q (some (Sum.inr t0 : σ ⊕ τ)) (gsum P G) pc lv st s :=
  fun t h1 h2 => k t0 rfl (by cases h1; exact h2)
/-- a loop -/
theorem gL {σ : Type} {body : σ → Option (σ ⊕ τ)} {pc : Nat} {lv : σ → gLV} {s : σ → gST}
    (hb : ∀ z, GSim Cal X mi Q (body z) (gsum (fun z => GPW Cal X mi Q pc (lv z) [] (s z)) G) pc (lv z) [] (s z)) (z : σ) : GSim Cal X mi Q (loop body z) G pc (lv z) [] (s z) := by
  intro t h1 h2
  obtain ⟨n, hn⟩ := loop_iff.mp h1
  clear h1
  induction n generalizing z with
  | zero => cases hn
  | succ n ih =>
    unfold loopN at hn
    cases hz : body z with
    | none => rw [hz] at hn; cases hn
    | some y =>
      rw [hz] at hn
      cases y with
      | inl s' => exact hb z _ hz (ih s' hn)
      | inr t' =>
        cases hn
        exact hb z _ hz h2
theorem gM (m : List Bool) (hc : mi.1 pc = some e) (k : GSim Cal X mi Q x G pc (gmask m lv) st s) : GSim Cal X mi Q x G pc lv st s :=
  fun t h1 h2 => GPW.m m hc (k t h1 h2)
theorem gMk (m : List Bool) {lv' : gLV} (hc : mi.1 pc = some e) (hm : gmask m lv = lv') (k : GSim Cal X mi Q x G pc lv' st s) : GSim Cal X mi Q x G pc lv st s :=
  fun t h1 h2 => GPW.m m hc (by rw [hm]; exact k t h1 h2)
theorem gJn {α : Type} {K : α → Option τ} {f : (α → Option τ) → Option τ} (J : Nat) (lvJ : α → gLV) (stJ : α → List gPV) (sJ : α → gST) (hK : ∀ v, GSim Cal X mi Q (K v) G J (lvJ v) (stJ v) (sJ v))
    (hf : ∀ k : α → Option τ, (∀ v, GSim Cal X mi Q (k v) G J (lvJ v) (stJ v) (sJ v)) → GSim Cal X mi Q (f k) G pc lv st s) : GSim Cal X mi Q (jn K f) G pc lv st s := hf K hK
theorem gN {σ : Type} {P : σ → Prop} (k : GSim Cal X mi Q x G pc lv st s) : GSim Cal X mi Q (x.map (Sum.inr : τ → σ ⊕ τ)) (gsum P G) pc lv st s := by
  intro t h1 h2
  obtain ⟨z, hz, rfl⟩ := Option.map_eq_some_iff.mp h1
  exact k z hz h2
/-- a switch, at no case's number -/
theorem gSw {dd lo hi : Int} {offs : Array Int} {x2 : Int32} {nx a b tt : Nat} {vv : Int32} {ww : Int64} (hc : mi.1 pc = some (.tableswitch dd lo hi offs, nx, a, b, tt, vv, ww)) (hx : x2.toInt < lo ∨ hi < x2.toInt) (k : GSim Cal X mi Q x G a lv st s) : GSim Cal X mi Q x G pc lv (.inl x2 :: st) s :=
  gS hc (by simp only [gstep, if_pos hx]) k
end GSIM
theorem rv_recv {D : gDS} {r : gRF} {ci : Nat} {as : List gPV} (hc : ci < 90) (h : gRv D r ci = some ()) : grecv D (.inr (.inr r) :: as) ci = true := by
  unfold gRv at h
  unfold grecv
  have h1 : Nat.blt ci 90 = true := Nat.ble_eq_true_of_le hc
  have h2 : Nat.beq ci 97 = false := by
    cases hb : Nat.beq ci 97 with
    | false => rfl
    | true => have := Nat.eq_of_beq_eq_true hb; omega
  rw [h1]
  simp only [Bool.true_or]
  cases hq : gCls D r with
  | none => rw [hq] at h; cases h
  | some c =>
    rw [hq] at h
    simp only [h2, cond_false]
    cases hb : Nat.beq c ci with
    | true => rfl
    | false => simp only [hb] at h; cases h
theorem rv_super {D : gDS} {r : gRF} {as : List gPV} (h : gRv D r 12 = some ()) : grecv D (.inr (.inr r) :: as) 97 = true := by
  unfold gRv at h
  show (match gCls D r with
    | some c => Nat.beq c 12
    | none => false) = true
  cases hq : gCls D r with
  | none => rw [hq] at h; cases h
  | some c =>
    rw [hq] at h
    show Nat.beq c 12 = true
    cases hb : Nat.beq c 12 with
    | true => rfl
    | false => simp only [hb] at h; cases h
theorem rv_bind {τ : Type} {y : Option Unit} {K : Unit → Option τ} {t : τ} (h : y.bind K = some t) : y = some () := by
  obtain ⟨z, hz, -⟩ := Option.bind_eq_some_iff.mp h
  exact hz
