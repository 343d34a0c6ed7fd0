/-! WHAT A METHOD COMES TO, over the pure machine -/
def pret (rt : Nat) (e : PE) (st : List Value) : Option (Option Value) :=
  match e.1 with
  | .ireturn => match st with
    | [.int x] => match rt with
      | 1 => some (some (.int x))
      | 2 => if x = 0 then some (some (.int 0)) else if x = 1 then some (some (.int 1)) else none
      | _ => none
    | _ => none
  | .lreturn => match st with
    | [.long x] => match rt with
      | 3 => some (some (.long x))
      | _ => none
    | _ => none
  | .return_ => match st with
    | [] => match rt with
      | 0 => some none
      | _ => none
    | _ => none
  | _ => none
def pthrow (e : PE) : Option Nat :=
  match e.1 with
  | .new _ => some e.2.2.1
  | _ => none
def pcall (e : PE) (st : List Value) : Option (Nat × List Value × List Value) :=
  match e with
  | (i, _, a, b, t, _, _) =>
  match i with
  | .invokevirtual _ => match Nat.blt t 99 with
    | true => match popk b st [] with
      | some (as, r) => some (a, as, r)
      | none => none
    | false => none
  | .invokestatic _ => match t with
    | 99 => match popk b st [] with
      | some (as, r) => some (a, as, r)
      | none => none
    | _ => none
  | _ => none
def recvB (as : List Value) (t : Nat) : Bool :=
  match Nat.beq t 99 with
  | true => true
  | false => match as with
    | .ref r :: _ => match layF r with
      | (0, ci, _) => Nat.beq ci t
      | _ => false
    | _ => false
/-- behind a handler's store nothing of the locals is known -/
def lclr (_ : PL) (_ : Nat) : PL := []
def lvA : Nat → List Value → PL
  | 0, _ => []
  | n + 1, [] => none :: lvA n []
  | 1, v :: _ => [some v]
  | n + 2, .long x :: t => some (.long x) :: none :: lvA n t
  | n + 2, .double x :: t => some (.double x) :: none :: lvA n t
  | n + 2, v :: t => some v :: lvA (n + 1) t
def lmask : List Bool → PL → PL
  | true :: m, x :: t => x :: lmask m t
  | false :: m, _ :: t => none :: lmask m t
  | _, _ => []
def psr (Cal : Nat → List Value → PH → PO → PH → Prop) (mi : PMI) (e : PE) (pc : Nat) (lv : PL) (st : List Value) (h : PH) (c : Nat) (K : Nat → PL → List Value → PH → Nat → Prop) (Q : PO → PH → Prop) : Prop :=
  (∃ (pc' : Nat) (lv' : PL) (st' : List Value) (h' : PH), pstep layF slenF schF e lv st h = some (pc', lv', st', h') ∧ K pc' lv' st' h' c) ∨
  (∃ o, pret mi.2.1 e st = some o ∧ Q (.inl o) h) ∨
  (∃ E, pthrow e = some E ∧ c + 1 ≤ mi.2.2.1 ∧ catz st ≤ 8 ∧ Q (.inr E) h) ∨
  (∃ m, K pc (lmask m lv) st h c) ∨
  (∃ (k : Nat) (as r : List Value) (o : PO) (h1 : PH), pcall e st = some (k, as, r) ∧ recvB as e.2.2.2.2.1 = true ∧ catz r ≤ 8 ∧ c + mcOf k ≤ mi.2.2.1 ∧ Cal k as h o h1 ∧
    ((∃ v, o = .inl v ∧ K e.2.1 lv (v.toList ++ r) h1 (c + mcOf k)) ∨
     (∃ E, o = .inr E ∧ (((mi.2.2.2.1 pc 99 = none ∧ mi.2.2.2.1 pc E = none) ∧ Q (.inr E) h1) ∨ ∃ t, mi.2.2.2.1 pc E = some t ∧ K t.1 (lclr lv t.2) [] h1 (c + mcOf k)))))
def pw (Cal : Nat → List Value → PH → PO → PH → Prop) (mi : PMI) (Q : PO → PH → Prop) : Nat → Nat → PL → List Value → PH → Nat → Prop
  | 0, _, _, _, _, _ => False
  | n + 1, pc, lv, st, h, c => ∃ e, mi.1 pc = some e ∧ psr Cal mi e pc lv st h c (pw Cal mi Q n) Q
def PW (Cal : Nat → List Value → PH → PO → PH → Prop) (mi : PMI) (Q : PO → PH → Prop) (pc : Nat) (lv : PL) (st : List Value) (h : PH) (c : Nat) : Prop := ∃ n, pw Cal mi Q n pc lv st h c
/-- method k, called no deeper than d, comes to outcome o -/
def Ex : Nat → Nat → List Value → PH → PO → PH → Prop
  | 0 => fun _ _ _ _ _ => False
  | d + 1 => fun k as h o h' => Nat.ble (catz as) (miOf k).2.2.2.2 = true ∧ PW (Ex d) (miOf k) (fun o1 h1 => o1 = o ∧ h1 = h') 0 (lvA (miOf k).2.2.2.2 as) [] h 0
/-- what is due of a loop's turn: on, or out -/
def gsum {σ τ : Type} (P : σ → Prop) (G : τ → Prop) : σ ⊕ τ → Prop
  | .inl s => P s
  | .inr t => G t
/-- a call's answer, or its throw, goes on -/
def bsum {σ τ : Type} (kx : Nat → Option τ) (k : σ → Option τ) : Nat ⊕ σ → Option τ
  | .inl E => kx E
  | .inr v => k v
def exx {σ : Type} (P : Nat → Prop) (R : σ → Prop) : Nat ⊕ σ → Prop
  | .inl E => P E
  | .inr v => R v
/-! a body of the machine follows a function -/
def Sim {τ : Type} (Cal : Nat → List Value → PH → PO → PH → Prop) (mi : PMI) (Q : PO → PH → Prop) (x : Option τ) (G : τ → Prop) (pc : Nat) (lv : PL) (st : List Value) (h : PH) (c : Nat) : Prop := ∀ t, x = some t → G t → PW Cal mi Q pc lv st h c
def loopN {σ τ : Type} (body : σ → Option (σ ⊕ τ)) : Nat → σ → Option τ
  | 0, _ => none
  | n + 1, s => match body s with
    | none => none
    | some (.inl s') => loopN body n s'
    | some (.inr t) => some t
theorem loopN_mono {σ τ : Type} {body : σ → Option (σ ⊕ τ)} : ∀ {n : Nat} {s : σ} {t : τ}, loopN body n s = some t → ∀ m, n ≤ m → loopN body m s = some t
  | 0, s, t, h, _, _ => by cases h
  | n + 1, s, t, h, 0, hm => by omega
  | n + 1, s, t, h, m + 1, hm => by
    unfold loopN at h ⊢
    cases hb : body s with
    | none => rw [hb] at h; cases h
    | some z =>
      rw [hb] at h
      cases z with
      | inl s' => exact loopN_mono h m (by omega)
      | inr t' => exact h
noncomputable def loop {σ τ : Type} (body : σ → Option (σ ⊕ τ)) (s : σ) : Option τ :=
  @dite (Option τ) (∃ n t, loopN body n s = some t) (Classical.propDecidable _) (fun h => some (Classical.choose (Classical.choose_spec h))) (fun _ => none)
theorem loop_iff {σ τ : Type} {body : σ → Option (σ ⊕ τ)} {s : σ} {t : τ} : loop body s = some t ↔ ∃ n, loopN body n s = some t := by
  unfold loop
  by_cases h : ∃ n t, loopN body n s = some t
  · rw [dif_pos h]
    have h1 := Classical.choose_spec (Classical.choose_spec h)
    constructor
    · intro e
      cases e
      exact ⟨_, h1⟩
    · intro ⟨n, hn⟩
      have a := loopN_mono h1 (max n (Classical.choose h)) (Nat.le_max_right _ _)
      have b := loopN_mono hn (max n (Classical.choose h)) (Nat.le_max_left _ _)
      exact a.symm.trans b
  · rw [dif_neg h]
    constructor
    · intro e; cases e
    · intro ⟨n, hn⟩
      exact absurd ⟨n, t, hn⟩ h
/-- a loop's one turn -/
theorem loop_eq {σ τ : Type} (body : σ → Option (σ ⊕ τ)) (s : σ) : loop body s = (body s).bind (fun z => match z with | .inl s' => loop body s' | .inr t => some t) := by
  have key : ∀ t, loop body s = some t ↔ (body s).bind (fun z => match z with | .inl s' => loop body s' | .inr t => some t) = some t := by
    intro t
    rw [loop_iff]
    constructor
    · intro ⟨n, hn⟩
      cases n with
      | zero => cases hn
      | succ n =>
        unfold loopN at hn
        cases hb : body s with
        | none => rw [hb] at hn; cases hn
        | some z =>
          rw [hb] at hn
          cases z with
          | inl s' => exact loop_iff.mpr ⟨n, hn⟩
          | inr t' => exact hn
    · intro h
      cases hb : body s with
      | none => rw [hb] at h; cases h
      | some z =>
        rw [hb] at h
        cases z with
        | inl s' =>
          obtain ⟨n, hn⟩ := loop_iff.mp (show loop body s' = some t from h)
          exact ⟨n + 1, by unfold loopN; rw [hb]; exact hn⟩
        | inr t' => exact ⟨1, by unfold loopN; rw [hb]; exact h⟩
  cases h1 : loop body s with
  | some t => exact ((key t).mp h1).symm
  | none =>
    cases h2 : (body s).bind (fun z => match z with | .inl s' => loop body s' | .inr t => some t) with
    | none => rfl
    | some t => exact absurd ((key t).mpr h2) (by rw [h1]; intro q; cases q)
section SIMR
variable {τ : Type} {Cal : Nat → List Value → PH → PO → PH → Prop} {mi : PMI} {Q : PO → PH → Prop} {x : Option τ} {G : τ → Prop} {pc : Nat} {lv : PL} {st : List Value} {h : PH} {c : Nat} {e : PE}
theorem PW.s {pc' : Nat} {lv' : PL} {st' : List Value} {h' : PH} (hc : mi.1 pc = some e) (hp : pstep layF slenF schF e lv st h = some (pc', lv', st', h')) (k : PW Cal mi Q pc' lv' st' h' c) : PW Cal mi Q pc lv st h c := by
  obtain ⟨n, hn⟩ := k
  exact ⟨n + 1, e, hc, Or.inl ⟨_, _, _, _, hp, hn⟩⟩
theorem PW.r {o : Option Value} (hc : mi.1 pc = some e) (hp : pret mi.2.1 e st = some o) (k : Q (.inl o) h) : PW Cal mi Q pc lv st h c :=
  ⟨1, e, hc, Or.inr (Or.inl ⟨o, hp, k⟩)⟩
theorem PW.t {E : Nat} (hc : mi.1 pc = some e) (hp : pthrow e = some E) (hm : c + 1 ≤ mi.2.2.1) (hz : catz st ≤ 8) (k : Q (.inr E) h) : PW Cal mi Q pc lv st h c :=
  ⟨1, e, hc, Or.inr (Or.inr (Or.inl ⟨E, hp, hm, hz, k⟩))⟩
theorem PW.m (m : List Bool) (hc : mi.1 pc = some e) (k : PW Cal mi Q pc (lmask m lv) st h c) : PW Cal mi Q pc lv st h c := by
  obtain ⟨n, hn⟩ := k
  exact ⟨n + 1, e, hc, Or.inr (Or.inr (Or.inr (Or.inl ⟨m, hn⟩)))⟩
theorem PW.call {k : Nat} {as r : List Value} {v : Option Value} {h1 : PH} (hc : mi.1 pc = some e) (hp : pcall e st = some (k, as, r)) (hr : recvB as e.2.2.2.2.1 = true) (hz : catz r ≤ 8) (hm : c + mcOf k ≤ mi.2.2.1) (hk : Cal k as h (.inl v) h1)
    (kk : PW Cal mi Q e.2.1 lv (v.toList ++ r) h1 (c + mcOf k)) : PW Cal mi Q pc lv st h c := by
  obtain ⟨n, hn⟩ := kk
  exact ⟨n + 1, e, hc, Or.inr (Or.inr (Or.inr (Or.inr ⟨k, as, r, _, h1, hp, hr, hz, hm, hk, Or.inl ⟨v, rfl, hn⟩⟩)))⟩
theorem PW.callX {k : Nat} {as r : List Value} {E : Nat} {h1 : PH} (hc : mi.1 pc = some e) (hp : pcall e st = some (k, as, r)) (hr : recvB as e.2.2.2.2.1 = true) (hz : catz r ≤ 8) (hm : c + mcOf k ≤ mi.2.2.1) (hk : Cal k as h (.inr E) h1)
    (hh : mi.2.2.2.1 pc 99 = none ∧ mi.2.2.2.1 pc E = none) (kk : Q (.inr E) h1) : PW Cal mi Q pc lv st h c :=
  ⟨1, e, hc, Or.inr (Or.inr (Or.inr (Or.inr ⟨k, as, r, _, h1, hp, hr, hz, hm, hk, Or.inr ⟨E, rfl, Or.inl ⟨hh, kk⟩⟩⟩)))⟩
theorem PW.callH {k : Nat} {as r : List Value} {E : Nat} {h1 : PH} {t : Nat × Nat} (hc : mi.1 pc = some e) (hp : pcall e st = some (k, as, r)) (hr : recvB as e.2.2.2.2.1 = true) (hz : catz r ≤ 8) (hm : c + mcOf k ≤ mi.2.2.1) (hk : Cal k as h (.inr E) h1)
    (hh : mi.2.2.2.1 pc E = some t) (kk : PW Cal mi Q t.1 (lclr lv t.2) [] h1 (c + mcOf k)) : PW Cal mi Q pc lv st h c := by
  obtain ⟨n, hn⟩ := kk
  exact ⟨n + 1, e, hc, Or.inr (Or.inr (Or.inr (Or.inr ⟨k, as, r, _, h1, hp, hr, hz, hm, hk, Or.inr ⟨E, rfl, Or.inr ⟨t, hh, hn⟩⟩⟩)))⟩
/-- a plain instruction -/
theorem sS {pc' : Nat} {lv' : PL} {st' : List Value} {h' : PH} (hc : mi.1 pc = some e) (hp : pstep layF slenF schF e lv st h = some (pc', lv', st', h')) (k : Sim Cal mi Q x G pc' lv' st' h' c) : Sim Cal mi Q x G pc lv st h c :=
  fun t h1 h2 => PW.s hc hp (k t h1 h2)
/-- a branch -/
theorem sB {A B : Option τ} {p : Prop} [Decidable p] {pc1 pc2 : Nat} {st' : List Value} (hc : mi.1 pc = some e) (hp : pstep layF slenF schF e lv st h = if p then some (pc1, lv, st', h) else some (pc2, lv, st', h))
    (k1 : Sim Cal mi Q A G pc1 lv st' h c) (k2 : Sim Cal mi Q B G pc2 lv st' h c) : Sim Cal mi Q (if p then A else B) G pc lv st h c := by
  intro t h1 h2
  by_cases q : p
  · rw [if_pos q] at hp h1
    exact PW.s hc hp (k1 t h1 h2)
  · rw [if_neg q] at hp h1
    exact PW.s hc hp (k2 t h1 h2)
/-- a branch of a function that always comes to its answer -/
theorem sBt {A B : τ} {p : Prop} [Decidable p] {pc1 pc2 : Nat} {st' : List Value} (hc : mi.1 pc = some e) (hp : pstep layF slenF schF e lv st h = if p then some (pc1, lv, st', h) else some (pc2, lv, st', h))
    (k1 : Sim Cal mi Q (some A) G pc1 lv st' h c) (k2 : Sim Cal mi Q (some B) G pc2 lv st' h c) : Sim Cal mi Q (some (if p then A else B)) G pc lv st h c := by
  intro t h1 h2
  by_cases q : p
  · rw [if_pos q] at hp h1
    exact PW.s hc hp (k1 t h1 h2)
  · rw [if_neg q] at hp h1
    exact PW.s hc hp (k2 t h1 h2)
theorem PW.bt {p : Prop} [Decidable p] {pc1 pc2 : Nat} {st' : List Value} (hc : mi.1 pc = some e) (hp : pstep layF slenF schF e lv st h = if p then some (pc1, lv, st', h) else some (pc2, lv, st', h)) (q : p) (k : PW Cal mi Q pc1 lv st' h c) : PW Cal mi Q pc lv st h c := by
  rw [if_pos q] at hp
  exact PW.s hc hp k
theorem PW.bf {p : Prop} [Decidable p] {pc1 pc2 : Nat} {st' : List Value} (hc : mi.1 pc = some e) (hp : pstep layF slenF schF e lv st h = if p then some (pc1, lv, st', h) else some (pc2, lv, st', h)) (q : ¬ p) (k : PW Cal mi Q pc2 lv st' h c) : PW Cal mi Q pc lv st h c := by
  rw [if_neg q] at hp
  exact PW.s hc hp k
/-- the branch is known by a premise -/
theorem sIf {A B : Option τ} {p : Prop} [Decidable p] (k1 : p → Sim Cal mi Q A G pc lv st h c) (k2 : ¬ p → Sim Cal mi Q B G pc lv st h c) : Sim Cal mi Q (if p then A else B) G pc lv st h c := by
  intro t h1 h2
  by_cases q : p
  · rw [if_pos q] at h1
    exact k1 q t h1 h2
  · rw [if_neg q] at h1
    exact k2 q t h1 h2
/-- a partial operation: y comes to a z, and the machine goes on with what z says -/
theorem sO {σ : Type} {y : Option σ} {K : σ → Option τ} {pc' : σ → Nat} {lv' : σ → PL} {st' : σ → List Value} {h' : σ → PH} (hc : mi.1 pc = some e) (hp : ∀ z, y = some z → pstep layF slenF schF e lv st h = some (pc' z, lv' z, st' z, h' z))
    (k : ∀ z, Sim Cal mi Q (K z) G (pc' z) (lv' z) (st' z) (h' z) c) : Sim Cal mi Q (y.bind K) G pc lv st h c := by
  intro t h1 h2
  obtain ⟨z, hz, h3⟩ := Option.bind_eq_some_iff.mp h1
  exact PW.s hc (hp z hz) (k z t h3 h2)
/-- a call of a method that follows y -/
theorem sC1 {σ : Type} {y : Option σ} {K : σ → Option τ} {vo : σ → Value} {ho : σ → PH} {k c' : Nat} {as r : List Value} (hc : mi.1 pc = some e) (hp : pcall e st = some (k, as, r)) (hr : recvB as e.2.2.2.2.1 = true) (hz : Nat.ble (catz r) 8 = true) (hcc : c + mcOf k = c') (hm : Nat.ble c' mi.2.2.1 = true)
    (hk : ∀ z, y = some z → Cal k as h (.inl (some (vo z))) (ho z)) (kk : ∀ z, Sim Cal mi Q (K z) G e.2.1 lv (vo z :: r) (ho z) c') : Sim Cal mi Q (y.bind K) G pc lv st h c := by
  subst hcc
  intro t h1 h2
  obtain ⟨z, hz1, h3⟩ := Option.bind_eq_some_iff.mp h1
  exact PW.call hc hp hr (Nat.le_of_ble_eq_true hz) (Nat.le_of_ble_eq_true hm) (hk z hz1) (kk z t h3 h2)
theorem sC0 {σ : Type} {y : Option σ} {K : σ → Option τ} {ho : σ → PH} {k c' : Nat} {as r : List Value} (hc : mi.1 pc = some e) (hp : pcall e st = some (k, as, r)) (hr : recvB as e.2.2.2.2.1 = true) (hz : Nat.ble (catz r) 8 = true) (hcc : c + mcOf k = c') (hm : Nat.ble c' mi.2.2.1 = true)
    (hk : ∀ z, y = some z → Cal k as h (.inl none) (ho z)) (kk : ∀ z, Sim Cal mi Q (K z) G e.2.1 lv r (ho z) c') : Sim Cal mi Q (y.bind K) G pc lv st h c := by
  subst hcc
  intro t h1 h2
  obtain ⟨z, hz1, h3⟩ := Option.bind_eq_some_iff.mp h1
  exact PW.call hc hp hr (Nat.le_of_ble_eq_true hz) (Nat.le_of_ble_eq_true hm) (hk z hz1) (kk z t h3 h2)
/-- a call of a method that always comes to its answer -/
theorem sT1 {vo : Value} {ho : PH} {k c' : Nat} {as r : List Value} (hc : mi.1 pc = some e) (hp : pcall e st = some (k, as, r)) (hr : recvB as e.2.2.2.2.1 = true) (hz : Nat.ble (catz r) 8 = true) (hcc : c + mcOf k = c') (hm : Nat.ble c' mi.2.2.1 = true)
    (hk : Cal k as h (.inl (some vo)) ho) (kk : Sim Cal mi Q x G e.2.1 lv (vo :: r) ho c') : Sim Cal mi Q x G pc lv st h c := by
  subst hcc
  exact fun t h1 h2 => PW.call hc hp hr (Nat.le_of_ble_eq_true hz) (Nat.le_of_ble_eq_true hm) hk (kk t h1 h2)
theorem sT0 {ho : PH} {k c' : Nat} {as r : List Value} (hc : mi.1 pc = some e) (hp : pcall e st = some (k, as, r)) (hr : recvB as e.2.2.2.2.1 = true) (hz : Nat.ble (catz r) 8 = true) (hcc : c + mcOf k = c') (hm : Nat.ble c' mi.2.2.1 = true)
    (hk : Cal k as h (.inl none) ho) (kk : Sim Cal mi Q x G e.2.1 lv r ho c') : Sim Cal mi Q x G pc lv st h c := by
  subst hcc
  exact fun t h1 h2 => PW.call hc hp hr (Nat.le_of_ble_eq_true hz) (Nat.le_of_ble_eq_true hm) hk (kk t h1 h2)
/-- the end -/
theorem sR {o : Option Value} {t0 : τ} (hc : mi.1 pc = some e) (hp : pret mi.2.1 e st = some o) (k : G t0 → Q (.inl o) h) : Sim Cal mi Q (some t0) G pc lv st h c :=
  fun t h1 h2 => PW.r hc hp (k (by cases h1; exact h2))
/-- a jump to a loop's head, whose state is that of s -/
theorem sJ {σ τ' : Type} {P : σ → Prop} {G' : τ' → Prop} {s : σ} (k : P s → PW Cal mi Q pc lv st h c) : Sim Cal mi Q (some (Sum.inl s : σ ⊕ τ')) (gsum P G') pc lv st h c :=
  fun t h1 h2 => k (by cases h1; exact h2)
theorem sUp {σ : Type} {P : σ → Prop} {t0 : τ} (k : Sim Cal mi Q (some t0) G pc lv st h c) : Sim Cal mi Q (some (Sum.inr t0 : σ ⊕ τ)) (gsum P G) pc lv st h c :=
  fun t h1 h2 => k t0 rfl (by cases h1; exact h2)
/-- a loop -/
theorem sL {σ : Type} {body : σ → Option (σ ⊕ τ)} {pc : Nat} {lv : σ → PL} {h : σ → PH} {c : Nat}
    (hb : ∀ s, Sim Cal mi Q (body s) (gsum (fun s => PW Cal mi Q pc (lv s) [] (h s) c) G) pc (lv s) [] (h s) c) (s : σ) : Sim Cal mi Q (loop body s) G pc (lv s) [] (h s) c := by
  intro t h1 h2
  obtain ⟨n, hn⟩ := loop_iff.mp h1
  clear h1
  induction n generalizing s with
  | zero => cases hn
  | succ n ih =>
    unfold loopN at hn
    cases hz : body s with
    | none => rw [hz] at hn; cases hn
    | some z =>
      rw [hz] at hn
      cases z with
      | inl s' => exact hb s _ hz (ih s' hn)
      | inr t' =>
        cases hn
        exact hb s _ hz h2
/-- locals that are not used again are forgotten -/
theorem sM (m : List Bool) (hc : mi.1 pc = some e) (k : Sim Cal mi Q x G pc (lmask m lv) st h c) : Sim Cal mi Q x G pc lv st h c :=
  fun t h1 h2 => PW.m m hc (k t h1 h2)
/-- a join of two roads -/
def jn {α γ : Type} (K : α → Option γ) (f : (α → Option γ) → Option γ) : Option γ := f K
theorem sJn {α : Type} {K : α → Option τ} {f : (α → Option τ) → Option τ} (J : Nat) (lvJ : α → PL) (stJ : α → List Value) (hJ : α → PH) (hK : ∀ v, Sim Cal mi Q (K v) G J (lvJ v) (stJ v) (hJ v) c)
    (hf : ∀ k : α → Option τ, (∀ v, Sim Cal mi Q (k v) G J (lvJ v) (stJ v) (hJ v) c) → Sim Cal mi Q (f k) G pc lv st h c) : Sim Cal mi Q (jn K f) G pc lv st h c := hf K hK
theorem sN {σ : Type} {P : σ → Prop} (k : Sim Cal mi Q x G pc lv st h c) : Sim Cal mi Q (x.map (Sum.inr : τ → σ ⊕ τ)) (gsum P G) pc lv st h c := by
  intro t h1 h2
  obtain ⟨z, hz, rfl⟩ := Option.map_eq_some_iff.mp h1
  exact k z hz h2
theorem pe_some {α : Type} {b : Bool} {x z : α} (h : (if b = true then some x else none) = some z) : b = true ∧ x = z := by
  cases b with
  | true => exact ⟨rfl, Option.some.inj h⟩
  | false => cases h
variable {nx a b tt : Nat} {vv : Int32} {ww : Int64} {i : Int32} {r n : Nat} {fs : List (Option Nat)} {z : Int32} {Ki : Int32 → Option τ} {Kl : Int64 → Option τ} {Kh : PH → Option τ} {Kn : Nat → Option τ}
theorem sIald (hc : mi.1 pc = some (.iaload, nx, a, b, tt, vv, ww)) (hl : layF r = (1, n, fs)) (k : ∀ z, Sim Cal mi Q (Ki z) G nx lv (.int z :: st) h c) : Sim Cal mi Q ((ald n h r i).bind Ki) G pc lv (.int i :: .ref r :: st) h c := by
  refine sO (pc' := fun _ => nx) (lv' := fun _ => lv) (st' := fun z => .int z :: st) (h' := fun _ => h) hc (fun z hz => ?_) k
  obtain ⟨h1, rfl⟩ := pe_some hz
  simp only [pstep, hl, h1, if_true]
theorem sIald7 (hc : mi.1 pc = some (.iaload, nx, a, b, tt, vv, ww)) (hl : layF r = (7, n, fs)) (k : ∀ z, Sim Cal mi Q (Ki z) G nx lv (.int z :: st) h c) : Sim Cal mi Q ((ald (h.1 (r + 1) 0).toNatClampNeg h r i).bind Ki) G pc lv (.int i :: .ref r :: st) h c := by
  refine sO (pc' := fun _ => nx) (lv' := fun _ => lv) (st' := fun z => .int z :: st) (h' := fun _ => h) hc (fun z hz => ?_) k
  obtain ⟨h1, rfl⟩ := pe_some hz
  simp only [pstep, hl, h1, if_true]
theorem sBald (hc : mi.1 pc = some (.baload, nx, a, b, tt, vv, ww)) (hl : layF r = (2, n, fs)) (k : ∀ z, Sim Cal mi Q (Ki z) G nx lv (.int z :: st) h c) : Sim Cal mi Q ((ald n h r i).bind Ki) G pc lv (.int i :: .ref r :: st) h c := by
  refine sO (pc' := fun _ => nx) (lv' := fun _ => lv) (st' := fun z => .int z :: st) (h' := fun _ => h) hc (fun z hz => ?_) k
  obtain ⟨h1, rfl⟩ := pe_some hz
  simp only [pstep, hl, h1, if_true]
theorem sZald (hc : mi.1 pc = some (.baload, nx, a, b, tt, vv, ww)) (hl : layF r = (3, n, fs)) (k : ∀ z, Sim Cal mi Q (Ki z) G nx lv (.int z :: st) h c) : Sim Cal mi Q ((ald n h r i).bind Ki) G pc lv (.int i :: .ref r :: st) h c := by
  refine sO (pc' := fun _ => nx) (lv' := fun _ => lv) (st' := fun z => .int z :: st) (h' := fun _ => h) hc (fun z hz => ?_) k
  obtain ⟨h1, rfl⟩ := pe_some hz
  simp only [pstep, hl, h1, if_true]
theorem sLald (hc : mi.1 pc = some (.laload, nx, a, b, tt, vv, ww)) (hl : layF r = (4, n, fs)) (k : ∀ z, Sim Cal mi Q (Kl z) G nx lv (.long z :: st) h c) : Sim Cal mi Q ((ldl n h r i).bind Kl) G pc lv (.int i :: .ref r :: st) h c := by
  refine sO (pc' := fun _ => nx) (lv' := fun _ => lv) (st' := fun z => .long z :: st) (h' := fun _ => h) hc (fun z hz => ?_) k
  obtain ⟨h1, rfl⟩ := pe_some hz
  simp only [pstep, hl, h1, if_true]
theorem sRald {q d : Nat} (hc : mi.1 pc = some (.aaload, nx, a, b, tt, vv, ww)) (hl : layF r = (5, n, [some q, some d])) (k : ∀ z, z < n → Sim Cal mi Q (Kn z) G nx lv (.ref (q + d * z) :: st) h c) : Sim Cal mi Q ((aidx n i).bind Kn) G pc lv (.int i :: .ref r :: st) h c := by
  intro t h1 h2
  obtain ⟨z, hz, h3⟩ := Option.bind_eq_some_iff.mp h1
  obtain ⟨h4, rfl⟩ := pe_some hz
  have h5 : i.toNatClampNeg < n := by
    unfold inb at h4
    rw [Bool.and_eq_true] at h4
    exact of_decide_eq_true h4.2
  exact PW.s hc (by simp only [pstep, hl, h4, if_true]) (k _ h5 t h3 h2)
theorem sRald6 {q d : Nat} (hc : mi.1 pc = some (.aaload, nx, a, b, tt, vv, ww)) (hl : layF r = (6, n, [some q, some d])) (k : ∀ z, z < n → Sim Cal mi Q (Kn z) G nx lv (.ref (q + d * z) :: st) h c) : Sim Cal mi Q ((aidx n i).bind Kn) G pc lv (.int i :: .ref r :: st) h c := by
  intro t h1 h2
  obtain ⟨z, hz, h3⟩ := Option.bind_eq_some_iff.mp h1
  obtain ⟨h4, rfl⟩ := pe_some hz
  have h5 : i.toNatClampNeg < n := by
    unfold inb at h4
    rw [Bool.and_eq_true] at h4
    exact of_decide_eq_true h4.2
  exact PW.s hc (by simp only [pstep, hl, h4, if_true]) (k _ h5 t h3 h2)
theorem sIast (hc : mi.1 pc = some (.iastore, nx, a, b, tt, vv, ww)) (hl : layF r = (1, n, fs)) (k : ∀ z, Sim Cal mi Q (Kh z) G nx lv st z c) : Sim Cal mi Q ((ast n h r i z).bind Kh) G pc lv (.int z :: .int i :: .ref r :: st) h c := by
  refine sO (pc' := fun _ => nx) (lv' := fun _ => lv) (st' := fun _ => st) (h' := fun z => z) hc (fun z hz => ?_) k
  obtain ⟨h1, rfl⟩ := pe_some hz
  simp only [pstep, hl, h1, if_true]
theorem sBast (hc : mi.1 pc = some (.bastore, nx, a, b, tt, vv, ww)) (hl : layF r = (2, n, fs)) (k : ∀ z, Sim Cal mi Q (Kh z) G nx lv st z c) : Sim Cal mi Q ((ast n h r i (vp_nar .byte z)).bind Kh) G pc lv (.int z :: .int i :: .ref r :: st) h c := by
  refine sO (pc' := fun _ => nx) (lv' := fun _ => lv) (st' := fun _ => st) (h' := fun z => z) hc (fun z hz => ?_) k
  obtain ⟨h1, rfl⟩ := pe_some hz
  simp only [pstep, hl, h1, if_true]
theorem sZast (hc : mi.1 pc = some (.bastore, nx, a, b, tt, vv, ww)) (hl : layF r = (3, n, fs)) (k : ∀ z, Sim Cal mi Q (Kh z) G nx lv st z c) : Sim Cal mi Q ((ast n h r i (vp_nar .boolean z)).bind Kh) G pc lv (.int z :: .int i :: .ref r :: st) h c := by
  refine sO (pc' := fun _ => nx) (lv' := fun _ => lv) (st' := fun _ => st) (h' := fun z => z) hc (fun z hz => ?_) k
  obtain ⟨h1, rfl⟩ := pe_some hz
  simp only [pstep, hl, h1, if_true]
theorem sLast {z : Int64} (hc : mi.1 pc = some (.lastore, nx, a, b, tt, vv, ww)) (hl : layF r = (4, n, fs)) (k : ∀ z, Sim Cal mi Q (Kh z) G nx lv st z c) : Sim Cal mi Q ((asl n h r i z).bind Kh) G pc lv (.long z :: .int i :: .ref r :: st) h c := by
  refine sO (pc' := fun _ => nx) (lv' := fun _ => lv) (st' := fun _ => st) (h' := fun z => z) hc (fun z hz => ?_) k
  obtain ⟨h1, rfl⟩ := pe_some hz
  simp only [pstep, hl, h1, if_true]
theorem sLdiv {x y : Int64} (hc : mi.1 pc = some (.ldiv, nx, a, b, tt, vv, ww)) (k : ∀ z, Sim Cal mi Q (Kl z) G nx lv (.long z :: st) h c) : Sim Cal mi Q ((dvl x y).bind Kl) G pc lv (.long y :: .long x :: st) h c := by
  refine sO (pc' := fun _ => nx) (lv' := fun _ => lv) (st' := fun z => .long z :: st) (h' := fun _ => h) hc (fun z hz => ?_) k
  unfold dvl at hz
  by_cases q : y = 0
  · rw [if_pos q] at hz; cases hz
  · rw [if_neg q] at hz; cases hz
    simp only [pstep, if_neg q]
def isStr (w : Nat) : Prop := Nat.ble SB w = true ∧ Nat.blt (w - SB) 7 = true
def chO (w : Nat) (i : Int32) : Option Int32 := if inb i (slenF (w - SB)) then some (schF (w - SB) i.toNatClampNeg) else none
theorem sChar {w : Nat} {ix : Nat} (hc : mi.1 pc = some (.invokevirtual ix, nx, a, b, 111, vv, ww)) (hw : isStr w) (hz9 : Nat.ble (catz st) 8 = true) (k : ∀ z, Sim Cal mi Q (Ki z) G nx lv (.int z :: st) h c) : Sim Cal mi Q ((chO w i).bind Ki) G pc lv (.int i :: .ref w :: st) h c := by
  refine sO (pc' := fun _ => nx) (lv' := fun _ => lv) (st' := fun z => .int z :: st) (h' := fun _ => h) hc (fun z hz => ?_) k
  obtain ⟨h1, rfl⟩ := pe_some hz
  simp only [pstep, hw.1, hw.2, hz9, h1, if_true, Bool.and_true]
theorem sSlen {w : Nat} {ix : Nat} (hc : mi.1 pc = some (.invokevirtual ix, nx, a, b, 110, vv, ww)) (hw : isStr w) (hz9 : Nat.ble (catz st) 8 = true) (k : Sim Cal mi Q x G nx lv (.int (Int32.ofNat (slenF (w - SB))) :: st) h c) : Sim Cal mi Q x G pc lv (.ref w :: st) h c :=
  sS hc (by simp only [pstep, hw.1, hw.2, hz9, Bool.and_true]) k
theorem sSw {dd lo hi : Int} {offs : Array Int} {x2 : Int32} (hc : mi.1 pc = some (.tableswitch dd lo hi offs, nx, a, b, tt, vv, ww)) (hx : x2.toInt < lo ∨ hi < x2.toInt) (k : Sim Cal mi Q x G a lv st h c) : Sim Cal mi Q x G pc lv (.int x2 :: st) h c :=
  sS hc (by simp only [pstep, if_pos hx]) k
theorem psw_ne {x y : Int32} {n : Int} (h : y.toInt = n) (q : ¬ x = y) : ¬ x.toInt = n := fun e => q (Int32.toInt_inj.mp (e.trans h.symm))
/-- a boolean that a call gave is answered -/
theorem sZ {K : Int32 → τ} (hc : mi.1 pc = some (.ireturn, nx, a, b, tt, vv, ww)) (hr : mi.2.1 = 2) (k : ∀ z, G (K z) → Q (.inl (some (.int z))) h) : Sim Cal mi Q ((zbo i).bind fun z => some (K z)) G pc lv [.int i] h c := by
  intro t h1 h2
  obtain ⟨z, hz, h3⟩ := Option.bind_eq_some_iff.mp h1
  cases h3
  refine PW.r (o := some (.int z)) hc ?_ (k z h2)
  unfold zbo at hz
  by_cases q0 : i = 0
  · rw [if_pos q0] at hz; cases hz
    simp only [pret, hr, if_pos q0]
  · rw [if_neg q0] at hz
    by_cases q1 : i = 1
    · rw [if_pos q1] at hz; cases hz
      simp only [pret, hr, if_neg q0, if_pos q1]
    · rw [if_neg q1] at hz; cases hz
/-- a field of a thing of which only the layout is known -/
theorem sGr {ix o j ci : Nat} (hc : mi.1 pc = some (.getfield ix, nx, ci, b, tt, vv, ww)) (hl : layF o = (0, ci, fs)) (hf : lgf fs b = some (some j)) (k : Sim Cal mi Q x G nx lv (.ref j :: st) h c) : Sim Cal mi Q x G pc lv (.ref o :: st) h c :=
  sS hc (by simp only [pstep, hl, Nat.beq_refl, hf]) k
theorem sGi {ix o ci : Nat} (hc : mi.1 pc = some (.getfield ix, nx, ci, b, tt, vv, ww)) (hl : layF o = (0, ci, fs)) (hf : lgf fs b = some none) (k : Sim Cal mi Q x G nx lv (.int (h.1 o b) :: st) h c) : Sim Cal mi Q x G pc lv (.ref o :: st) h c :=
  sS hc (by simp only [pstep, hl, Nat.beq_refl, hf]) k
theorem sPi {ix o ci : Nat} {y : Int32} (hc : mi.1 pc = some (.putfield ix, nx, ci, b, 0, vv, ww)) (hl : layF o = (0, ci, fs)) (hf : lgf fs b = some none) (k : Sim Cal mi Q x G nx lv st (pu h o b y) c) : Sim Cal mi Q x G pc lv (.int y :: .ref o :: st) h c :=
  sS hc (by simp only [pstep, hl, Nat.beq_refl, hf]) k
theorem pm_recv {o t : Nat} {as : List Value} (hl : layF o = (0, t, fs)) : recvB (.ref o :: as) t = true := by
  unfold recvB
  cases ht : Nat.beq t 99 with
  | true => rfl
  | false => simp only [hl, Nat.beq_refl]
/-- a call of a method that may throw -/
theorem sCX1 {σ : Type} {y : Option (Nat ⊕ σ)} {K : σ → Option τ} {KX : Nat → Option τ} {vo : σ → Value} {ho : σ → PH} {hx : PH} {k c' : Nat} {as r : List Value} (hc : mi.1 pc = some e) (hp : pcall e st = some (k, as, r)) (hr : recvB as e.2.2.2.2.1 = true) (hz : Nat.ble (catz r) 8 = true) (hcc : c + mcOf k = c') (hm : Nat.ble c' mi.2.2.1 = true)
    (hk : ∀ z, y = some z → exx (fun E => Cal k as h (.inr E) hx) (fun v => Cal k as h (.inl (some (vo v))) (ho v)) z)
    (kx : ∀ E t, KX E = some t → G t → ((mi.2.2.2.1 pc 99 = none ∧ mi.2.2.2.1 pc E = none) ∧ Q (.inr E) hx) ∨ ∃ t, mi.2.2.2.1 pc E = some t ∧ PW Cal mi Q t.1 (lclr lv t.2) [] hx c')
    (kk : ∀ v, Sim Cal mi Q (K v) G e.2.1 lv (vo v :: r) (ho v) c') : Sim Cal mi Q (y.bind (bsum KX K)) G pc lv st h c := by
  subst hcc
  intro t h1 h2
  obtain ⟨z, hz1, h3⟩ := Option.bind_eq_some_iff.mp h1
  have h4 := hk z hz1
  cases z with
  | inl E =>
    rcases kx E t h3 h2 with ⟨a1, a2⟩ | ⟨t1, a1, a2⟩
    · exact PW.callX hc hp hr (Nat.le_of_ble_eq_true hz) (Nat.le_of_ble_eq_true hm) h4 a1 a2
    · exact PW.callH hc hp hr (Nat.le_of_ble_eq_true hz) (Nat.le_of_ble_eq_true hm) h4 a1 a2
  | inr v => exact PW.call hc hp hr (Nat.le_of_ble_eq_true hz) (Nat.le_of_ble_eq_true hm) h4 (kk v t h3 h2)
theorem sCX0 {σ : Type} {y : Option (Nat ⊕ σ)} {K : σ → Option τ} {KX : Nat → Option τ} {ho : σ → PH} {hx : PH} {k c' : Nat} {as r : List Value} (hc : mi.1 pc = some e) (hp : pcall e st = some (k, as, r)) (hr : recvB as e.2.2.2.2.1 = true) (hz : Nat.ble (catz r) 8 = true) (hcc : c + mcOf k = c') (hm : Nat.ble c' mi.2.2.1 = true)
    (hk : ∀ z, y = some z → exx (fun E => Cal k as h (.inr E) hx) (fun v => Cal k as h (.inl none) (ho v)) z)
    (kx : ∀ E t, KX E = some t → G t → ((mi.2.2.2.1 pc 99 = none ∧ mi.2.2.2.1 pc E = none) ∧ Q (.inr E) hx) ∨ ∃ t, mi.2.2.2.1 pc E = some t ∧ PW Cal mi Q t.1 (lclr lv t.2) [] hx c')
    (kk : ∀ v, Sim Cal mi Q (K v) G e.2.1 lv r (ho v) c') : Sim Cal mi Q (y.bind (bsum KX K)) G pc lv st h c := by
  subst hcc
  intro t h1 h2
  obtain ⟨z, hz1, h3⟩ := Option.bind_eq_some_iff.mp h1
  have h4 := hk z hz1
  cases z with
  | inl E =>
    rcases kx E t h3 h2 with ⟨a1, a2⟩ | ⟨t1, a1, a2⟩
    · exact PW.callX hc hp hr (Nat.le_of_ble_eq_true hz) (Nat.le_of_ble_eq_true hm) h4 a1 a2
    · exact PW.callH hc hp hr (Nat.le_of_ble_eq_true hz) (Nat.le_of_ble_eq_true hm) h4 a1 a2
  | inr v => exact PW.call hc hp hr (Nat.le_of_ble_eq_true hz) (Nat.le_of_ble_eq_true hm) h4 (kk v t h3 h2)
theorem sThrow {t0 : τ} {E : Nat} (hc : mi.1 pc = some e) (hp : pthrow e = some E) (hm : Nat.ble (c + 1) mi.2.2.1 = true) (hz : Nat.ble (catz st) 8 = true) (k : G t0 → Q (.inr E) h) : Sim Cal mi Q (some t0) G pc lv st h c :=
  fun t h1 h2 => PW.t hc hp (Nat.le_of_ble_eq_true hm) (Nat.le_of_ble_eq_true hz) (k (by cases h1; exact h2))
end SIMR
/-- things of one class that there are several of -/
def isNet (o : Nat) : Prop := layF o = (0, 2, [none, none, none, none, some (o + 1), some (o + 2), some (o + 3), some (o + 4), some (o + 5), some (o + 6)]) ∧ layF (o + 1) = (1, 28, []) ∧ layF (o + 2) = (1, 28, []) ∧ layF (o + 3) = (1, 28, []) ∧ layF (o + 4) = (1, 28, []) ∧ layF (o + 5) = (1, 14, []) ∧ layF (o + 6) = (1, 3, [])
def isPlan (o : Nat) : Prop := layF o = (0, 3, [none, some (o + 1), some (o + 2), some (o + 3)]) ∧ layF (o + 1) = (1, 4, []) ∧ layF (o + 2) = (1, 4, []) ∧ layF (o + 3) = (1, 56, [])
theorem isNet_p : isNet 14 := ⟨rfl, rfl, rfl, rfl, rfl, rfl, rfl⟩
theorem isNet_r : isNet 3 := ⟨rfl, rfl, rfl, rfl, rfl, rfl, rfl⟩
theorem isPlan_p : isPlan 26 := ⟨rfl, rfl, rfl, rfl⟩
theorem lay_n (r : Nat) : (layF r).2.1 ≤ 1556 := by
  rcases Nat.lt_or_ge r 168 with q | q
  · have : ∀ r, r < 168 → (layF r).2.1 ≤ 1556 := by decide +kernel
    exact this r q
  · have h0 : Nat.blt r 168 = false := by
      cases hb : Nat.blt r 168 with
      | false => rfl
      | true => exact absurd (Nat.le_of_ble_eq_true hb) (by omega)
    unfold layF
    rw [h0]
    exact Nat.zero_le _
theorem isNet_h {j : Nat} (hj : j < 8) : isNet (34 + 7 * j) := by
  have h8 : j = 0 ∨ j = 1 ∨ j = 2 ∨ j = 3 ∨ j = 4 ∨ j = 5 ∨ j = 6 ∨ j = 7 := by omega
  rcases h8 with rfl | rfl | rfl | rfl | rfl | rfl | rfl | rfl <;> exact ⟨rfl, rfl, rfl, rfl, rfl, rfl, rfl⟩
theorem isPlan_h {j : Nat} (hj : j < 8) : isPlan (90 + 4 * j) := by
  have h8 : j = 0 ∨ j = 1 ∨ j = 2 ∨ j = 3 ∨ j = 4 ∨ j = 5 ∨ j = 6 ∨ j = 7 := by omega
  rcases h8 with rfl | rfl | rfl | rfl | rfl | rfl | rfl | rfl <;> exact ⟨rfl, rfl, rfl, rfl⟩
