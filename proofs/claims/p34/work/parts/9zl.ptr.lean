/-! TREES' TEXTS READ BY THE CLASS -/
noncomputable def BTm (S : PH → Int32 → Option PH) (p0 : Int32) (s2 : Int32 × PH) : Option ((Int32 × PH) ⊕ PH) :=
  if (s2.2.1 1 4) ≤ s2.1 then
   some (.inr (s2.2))
  else
   if ¬ (s2.2.1 1 10) = 0 then
    some (.inr (s2.2))
   else
    if (s2.2.1 1 7) = (42 : Int32) then
     (F_X6_next s2.2).bind fun h3 =>
     (F_X6_readFactor S h3 p0).bind fun h4 =>
     some (.inl ((s2.1 + (1 : Int32)), (F_X0_addOperator h4 (s2.2.1 1 7))))
    else
     if ¬ (s2.2.1 1 7) = (47 : Int32) then
      some (.inr (s2.2))
     else
      (F_X6_next s2.2).bind fun h5 =>
      (F_X6_readFactor S h5 p0).bind fun h6 =>
      some (.inl ((s2.1 + (1 : Int32)), (F_X0_addOperator h6 (s2.2.1 1 7))))
noncomputable def BSm (S : PH → Int32 → Option PH) (p0 : Int32) (s2 : Int32 × PH) : Option ((Int32 × PH) ⊕ PH) :=
  if (s2.2.1 1 4) ≤ s2.1 then
   some (.inr (s2.2))
  else
   if ¬ (s2.2.1 1 10) = 0 then
    some (.inr (s2.2))
   else
    if (s2.2.1 1 7) = (43 : Int32) then
     (F_X6_next s2.2).bind fun h3 =>
     (F_X6_readTerm S h3 p0).bind fun h4 =>
     some (.inl ((s2.1 + (1 : Int32)), (F_X0_addOperator h4 (s2.2.1 1 7))))
    else
     if ¬ (s2.2.1 1 7) = (45 : Int32) then
      some (.inr (s2.2))
     else
      (F_X6_next s2.2).bind fun h5 =>
      (F_X6_readTerm S h5 p0).bind fun h6 =>
      some (.inl ((s2.1 + (1 : Int32)), (F_X0_addOperator h6 (s2.2.1 1 7))))
theorem rt_is (S : PH → Int32 → Option PH) (h : PH) (p0 : Int32) : F_X6_readTerm S h p0 = (F_X6_readFactor S h p0).bind fun h1 => loop (BTm S p0) ((0 : Int32), h1) := rfl
theorem rs_is (S : PH → Int32 → Option PH) (h : PH) (p0 : Int32) : F_X6_readSum S h p0 = (F_X6_readTerm S h p0).bind fun h1 => loop (BSm S p0) ((0 : Int32), h1) := rfl
section PTR
variable {b : Nat → Nat} {n : Nat} {S : PH → Int32 → Option PH} {d : Nat}
theorem GS.go {g : PH} {p m : Nat} {x : Itm} {l : List Itm} (hn : n ≤ 700) (h : GS b n g p (x :: l)) (hx : tkO x) (hm : m ≤ p) : ¬ (g.1 1 4) ≤ nI m ∧ ¬ ¬ (g.1 1 10) = 0 := by
  have hlt := h.lt hx
  refine ⟨fun z => ?_, fun z => z h.2.2.2.1⟩
  rw [h.1.1] at z
  have := (nI_le' (by omega) (by omega)).mp z
  omega
theorem BT_stop {g : PH} {p m : Nat} {x : Itm} {l : List Itm} {p0 : Int32} (hn : n ≤ 700) (h : GS b n g p (x :: l)) (hx : tkO x) (hm : m ≤ p) (h1 : x ≠ (0, 42)) (h2 : x ≠ (0, 47)) : loop (BTm S p0) (nI m, g) = some g := by
  obtain ⟨n1, n2⟩ := h.go hn hx hm
  have k1 : ¬ (g.1 1 7) = (42 : Int32) := fun z => h1 ((p_sgn h hx (c := 42) (by omega)).mp z)
  have k2 : ¬ (g.1 1 7) = (47 : Int32) := fun z => h2 ((p_sgn h hx (c := 47) (by omega)).mp z)
  rw [loop_eq]
  unfold BTm
  dsimp only
  rw [if_neg n1, if_neg n2, if_neg k1, if_pos k2, Option.bind_some]
theorem BS_stop {g : PH} {p m : Nat} {x : Itm} {l : List Itm} {p0 : Int32} (hn : n ≤ 700) (h : GS b n g p (x :: l)) (hx : tkO x) (hm : m ≤ p) (h1 : x ≠ (0, 43)) (h2 : x ≠ (0, 45)) : loop (BSm S p0) (nI m, g) = some g := by
  obtain ⟨n1, n2⟩ := h.go hn hx hm
  have k1 : ¬ (g.1 1 7) = (43 : Int32) := fun z => h1 ((p_sgn h hx (c := 43) (by omega)).mp z)
  have k2 : ¬ (g.1 1 7) = (45 : Int32) := fun z => h2 ((p_sgn h hx (c := 45) (by omega)).mp z)
  rw [loop_eq]
  unfold BSm
  dsimp only
  rw [if_neg n1, if_neg n2, if_neg k1, if_pos k2, Option.bind_some]
theorem sg_O (c : Nat) : tkO (0, c) := fun z => absurd z k02
theorem BT_step {g g2 g3 : PH} {p m c : Nat} {l : List Itm} {p0 : Int32} (hn : n ≤ 700) (h : GS b n g p ((0, c) :: l)) (hm : m ≤ p) (hc : c = 42 ∨ c = 47) (a1 : F_X6_next g = some g2) (a2 : F_X6_readFactor S g2 p0 = some g3) : loop (BTm S p0) (nI m, g) = loop (BTm S p0) (nI (m + 1), F_X0_addOperator g3 (nI c)) := by
  obtain ⟨n1, n2⟩ := h.go hn (sg_O c) hm
  have k : g.1 1 7 = nI c := (p_sgn h (sg_O c) (by omega)).mpr rfl
  conv => lhs; rw [loop_eq]; unfold BTm
  dsimp only
  rw [if_neg n1, if_neg n2, k]
  rcases hc with rfl | rfl
  · rw [if_pos (show nI 42 = (42 : Int32) from rfl), a1, Option.bind_some, a2, Option.bind_some, nI_1, Option.bind_some]
    rfl
  · rw [if_neg (show ¬ nI 47 = (42 : Int32) by decide), if_neg (show ¬ ¬ nI 47 = (47 : Int32) from fun z => z rfl), a1, Option.bind_some, a2, Option.bind_some, nI_1, Option.bind_some]
    rfl
theorem BS_step {g g2 g3 : PH} {p m c : Nat} {l : List Itm} {p0 : Int32} (hn : n ≤ 700) (h : GS b n g p ((0, c) :: l)) (hm : m ≤ p) (hc : c = 43 ∨ c = 45) (a1 : F_X6_next g = some g2) (a2 : F_X6_readTerm S g2 p0 = some g3) : loop (BSm S p0) (nI m, g) = loop (BSm S p0) (nI (m + 1), F_X0_addOperator g3 (nI c)) := by
  obtain ⟨n1, n2⟩ := h.go hn (sg_O c) hm
  have k : g.1 1 7 = nI c := (p_sgn h (sg_O c) (by omega)).mpr rfl
  conv => lhs; rw [loop_eq]; unfold BSm
  dsimp only
  rw [if_neg n1, if_neg n2, k]
  rcases hc with rfl | rfl
  · rw [if_pos (show nI 43 = (43 : Int32) from rfl), a1, Option.bind_some, a2, Option.bind_some, nI_1, Option.bind_some]
    rfl
  · rw [if_neg (show ¬ nI 45 = (43 : Int32) by decide), if_neg (show ¬ ¬ nI 45 = (45 : Int32) from fun z => z rfl), a1, Option.bind_some, a2, Option.bind_some, nI_1, Option.bind_some]
    rfl
def PFac (b : Nat → Nat) (n : Nat) (S : PH → Int32 → Option PH) (d : Nat) (l : List Stq) (ts : List Itm) : Prop :=
  ∀ g p x rest fl, GS b n g p (ts ++ x :: rest) → tkO x → FG g fl → fl.length + l.length ≤ 590 → ∃ g' p', F_X6_readFactor S g (nI d) = some g' ∧ GS b n g' p' (x :: rest) ∧ FG g' (fl ++ l) ∧ GC g g' ∧ p < p'
def PTer (b : Nat → Nat) (n : Nat) (S : PH → Int32 → Option PH) (d : Nat) (l : List Stq) (ts : List Itm) : Prop :=
  ∀ g p x rest fl, GS b n g p (ts ++ x :: rest) → tkO x → FG g fl → fl.length + l.length ≤ 590 → ∃ g1 m g' p', F_X6_readFactor S g (nI d) = some g1 ∧ loop (BTm S (nI d)) ((0 : Int32), g1) = loop (BTm S (nI d)) (nI m, g') ∧ GS b n g' p' (x :: rest) ∧ FG g' (fl ++ l) ∧ GC g g' ∧ m + p < p'
def PSum (b : Nat → Nat) (n : Nat) (S : PH → Int32 → Option PH) (d : Nat) (l : List Stq) (ts : List Itm) : Prop :=
  ∀ g p x rest fl, GS b n g p (ts ++ x :: rest) → tkO x → x ≠ (0, 42) → x ≠ (0, 47) → FG g fl → fl.length + l.length ≤ 590 → ∃ g1 m g' p', F_X6_readTerm S g (nI d) = some g1 ∧ loop (BSm S (nI d)) ((0 : Int32), g1) = loop (BSm S (nI d)) (nI m, g') ∧ GS b n g' p' (x :: rest) ∧ FG g' (fl ++ l) ∧ GC g g' ∧ m + p < p'
theorem PFac.ter {l : List Stq} {ts : List Itm} (h : PFac b n S d l ts) : PTer b n S d l ts := fun g p x rest fl h1 h2 h3 h4 => by
  obtain ⟨g', p', a1, a2, a3, a4, a5⟩ := h g p x rest fl h1 h2 h3 h4
  exact ⟨g', 0, g', p', a1, rfl, a2, a3, a4, by omega⟩
theorem PTer.term {l : List Stq} {ts : List Itm} (hn : n ≤ 700) (h : PTer b n S d l ts) {g : PH} {p : Nat} {x : Itm} {rest : List Itm} {fl : List Stq} (h1 : GS b n g p (ts ++ x :: rest)) (hx : tkO x) (x1 : x ≠ (0, 42)) (x2 : x ≠ (0, 47)) (h3 : FG g fl) (h4 : fl.length + l.length ≤ 590) : ∃ g' p', F_X6_readTerm S g (nI d) = some g' ∧ GS b n g' p' (x :: rest) ∧ FG g' (fl ++ l) ∧ GC g g' ∧ p < p' := by
  obtain ⟨g1, m, g', p', a1, a2, a3, a4, a5, a6⟩ := h g p x rest fl h1 hx h3 h4
  refine ⟨g', p', ?_, a3, a4, a5, by omega⟩
  rw [rt_is, a1, Option.bind_some, a2, BT_stop hn a3 hx (by omega) x1 x2]
theorem PTer.sum {l : List Stq} {ts : List Itm} (hn : n ≤ 700) (h : PTer b n S d l ts) : PSum b n S d l ts := fun g p x rest fl h1 hx x1 x2 h3 h4 => by
  obtain ⟨g', p', a1, a2, a3, a4, a5⟩ := h.term hn h1 hx x1 x2 h3 h4
  exact ⟨g', 0, g', p', a1, rfl, a2, a3, a4, by omega⟩
theorem GC.ftt {g g' : PH} (f : FT g g') : GC g g' := FE.GC (FT.FE f)
/-- a number, cost, demand -/
theorem PF_leaf {k v : Nat} (hn : n ≤ 700) (hb : ∀ j, b j < 256) (hk : k ≤ 1) (hs : stOK (k, v)) : PFac b n S d [(k, v)] (toks [if k = 0 then (1, v) else (2, 5 + v)]) := fun g p x rest fl h hx hF hl => by
  have hl : fl.length + 1 ≤ 590 := hl
  unfold F_X6_readFactor
  by_cases z : k = 0
  · subst z
    have hv : v ≤ 9999 := hs.2.1 rfl
    have h : GS b n g p ((1, v) :: x :: rest) := h
    have o1 : tkO (1, v) := fun z => absurd z k12
    have k40 : ¬ (g.1 1 7) = (40 : Int32) := fun z => by
      have := (p_sgn h o1 (c := 40) (by omega)).mp z
      injection this with y1 y2
      exact k10 y1
    obtain ⟨g1, p1, a1, a2, a3, a4⟩ := p_num hn hb h (lo := 0) (hi := 9999) (Nat.zero_le _) hv (by omega)
    obtain ⟨g2, b1, b2, b3, b4⟩ := p_add (s := (0, v)) (v := nI v) a2 (hF.ft a3) (by omega) rfl
    have i5 : F_X6_isWord g 1005 = some 0 := by
      rw [p_isw hn hb h o1 (j := 5) (by omega), if_neg (fun y => by injection y with y1 y2; exact k12 y1)]
    have i6 : F_X6_isWord g 1006 = some 0 := by
      rw [p_isw hn hb h o1 (j := 6) (by omega), if_neg (fun y => by injection y with y1 y2; exact k12 y1)]
    refine ⟨g2, p1, ?_, b2, b3, (GC.ftt a3).trans b4, a4⟩
    rw [i5, Option.bind_some, if_pos rfl, i6, Option.bind_some, if_pos rfl, if_neg k40, show F_X6_takeNumber g (0 : Int32) (9999 : Int32) = _ from a1, Option.bind_some]
    dsimp only
    rw [b1]
  · have hk1 : k = 1 := by omega
    subst hk1
    have hv : v ≤ 1 := hs.2.2 rfl
    have h : GS b n g p ((2, 5 + v) :: x :: rest) := h
    have o1 : tkO (2, 5 + v) := fun _ => by show 5 + v < 7; omega
    have hv : v = 0 ∨ v = 1 := by omega
    rcases hv with rfl | rfl
    · obtain ⟨g2, b1, b2, b3, b4⟩ := p_add (s := (1, 0)) (v := (10000 : Int32)) h hF (by omega) rfl
      obtain ⟨g1, p1, a1, a2, a3, a4⟩ := p_next hn hb b2 o1
      have i5 : F_X6_isWord g 1005 = some 1 := by
        rw [p_isw hn hb h o1 (j := 5) (by omega), if_pos rfl]
      refine ⟨g1, p1, ?_, a2, b3.ft a3, b4.trans (GC.ftt a3), a4⟩
      rw [i5, Option.bind_some, if_neg (show ¬ (1 : Int32) = 0 by decide), b1, a1, Option.bind_some]
    · obtain ⟨g2, b1, b2, b3, b4⟩ := p_add (s := (1, 1)) (v := (10001 : Int32)) h hF (by omega) rfl
      obtain ⟨g1, p1, a1, a2, a3, a4⟩ := p_next hn hb b2 o1
      have i5 : F_X6_isWord g 1005 = some 0 := by
        rw [p_isw hn hb h o1 (j := 5) (by omega), if_neg (fun y => by injection y with y1 y2; omega)]
      have i6 : F_X6_isWord g 1006 = some 1 := by
        rw [p_isw hn hb h o1 (j := 6) (by omega), if_pos rfl]
      refine ⟨g1, p1, ?_, a2, b3.ft a3, b4.trans (GC.ftt a3), a4⟩
      rw [i5, Option.bind_some, if_pos rfl, i6, Option.bind_some, if_neg (show ¬ (1 : Int32) = 0 by decide), b1, a1, Option.bind_some]
/-- a sum in parentheses -/
theorem PF_par {l : List Stq} {ts : List Itm} {f : Nat} (hn : n ≤ 700) (hb : ∀ j, b j < 256) (hd : d < 4) (h : PSum b n (R_X6_readSum f) (d + 1) l ts) : PFac b n (R_X6_readSum (f + 1)) d l ((0, 40) :: (ts ++ [(0, 41)])) := fun g p x rest fl hG hx hF hl => by
  have hG : GS b n g p ((0, 40) :: (ts ++ (0, 41) :: x :: rest)) := by
    have e : ((0, 40) :: (ts ++ [(0, 41)])) ++ x :: rest = (0, 40) :: (ts ++ (0, 41) :: x :: rest) := by
      simp
    rw [e] at hG
    exact hG
  have o1 := sg_O 40
  obtain ⟨g1, p1, a1, a2, a3, a4⟩ := p_next hn hb hG o1
  obtain ⟨h1, m, g2, p2, b1, b2, b3, b4, b5, b6⟩ := h g1 p1 (0, 41) (x :: rest) fl a2 (sg_O 41) (fun y => by injection y with y1 y2; omega) (fun y => by injection y with y1 y2; omega) (hF.ft a3) hl
  obtain ⟨g3, p3, c1, c2, c3, c4⟩ := p_sign hn hb b3
  have i5 : F_X6_isWord g 1005 = some 0 := by
    rw [p_isw hn hb hG o1 (j := 5) (by omega), if_neg (fun y => by injection y with y1 y2; exact k02 y1)]
  have i6 : F_X6_isWord g 1006 = some 0 := by
    rw [p_isw hn hb hG o1 (j := 6) (by omega), if_neg (fun y => by injection y with y1 y2; exact k02 y1)]
  have k40 : (g.1 1 7) = (40 : Int32) := (p_sgn hG o1 (c := 40) (by omega)).mpr rfl
  have e1 : R_X6_readSum (f + 1) g1 (nI (d + 1)) = some g2 := by
    show F_X6_readSum (R_X6_readSum f) g1 (nI (d + 1)) = some g2
    rw [rs_is, b1, Option.bind_some, b2]
    exact BS_stop hn b3 (sg_O 41) (by omega) (fun y => by injection y with y1 y2; omega) (fun y => by injection y with y1 y2; omega)
  refine ⟨g3, p3, ?_, c2, b4.ft c3, (GC.ftt a3).trans (b5.trans (GC.ftt c3)), by omega⟩
  unfold F_X6_readFactor
  rw [i5, Option.bind_some, if_pos rfl, i6, Option.bind_some, if_pos rfl, if_pos k40, if_pos (show nI d < (4 : Int32) from nI_lt (b := 4) hd (by omega)), a1, Option.bind_some, nI_1, e1, Option.bind_some, show F_X6_takeSign g2 (41 : Int32) = some g3 from c1, Option.bind_some]
/-- an operation behind its operands -/
theorem PT_op {la lb : List Stq} {ta tb : List Itm} {k : Nat} (hn : n ≤ 700) (hb : ∀ j, b j < 256) (hk : k = 4 ∨ k = 5) (ha : PTer b n S d la ta) (hbb : PFac b n S d lb tb) : PTer b n S d (la ++ (lb ++ [(k, 0)])) (ta ++ ((0, sgn k) :: tb)) := fun g p x rest fl hG hx hF hl => by
  have hc : sgn k = 42 ∨ sgn k = 47 := by rcases hk with rfl | rfl <;> decide
  have hG : GS b n g p (ta ++ (0, sgn k) :: (tb ++ x :: rest)) := by
    have e : (ta ++ ((0, sgn k) :: tb)) ++ x :: rest = ta ++ (0, sgn k) :: (tb ++ x :: rest) := by simp
    rw [e] at hG
    exact hG
  have ll : fl.length + (la.length + (lb.length + 1)) ≤ 590 := by
    simp only [List.length_append, List.length_cons, List.length_nil] at hl
    omega
  obtain ⟨g1, m, g2, p2, a1, a2, a3, a4, a5, a6⟩ := ha g p (0, sgn k) (tb ++ x :: rest) fl hG (sg_O _) hF (by omega)
  obtain ⟨g3, p3, b1, b2, b3, b4⟩ := p_next hn hb a3 (sg_O _)
  obtain ⟨g4, p4, c1, c2, c3, c4, c5⟩ := hbb g3 p3 x rest (fl ++ la) b2 hx (a4.ft b3) (by rw [List.length_append]; omega)
  obtain ⟨g5, d1, d2, d3, d4⟩ := p_add (s := (k, 0)) (v := -(nI (sgn k))) c2 c3 (by rw [List.length_append, List.length_append]; omega) (by rcases hk with rfl | rfl <;> rfl)
  refine ⟨g1, m + 1, g5, p4, a1, a2.trans ?_, d2, ?_, a5.trans ((GC.ftt b3).trans (c4.trans d4)), by omega⟩
  · rw [BT_step hn a3 (by omega) hc b1 c1, ← d1]
    rfl
  · rw [← List.append_assoc, ← List.append_assoc]
    exact d3
theorem PS_op {la lb : List Stq} {ta tb : List Itm} {k : Nat} (hn : n ≤ 700) (hb : ∀ j, b j < 256) (hk : k = 2 ∨ k = 3) (ha : PSum b n S d la ta) (hbb : PTer b n S d lb tb) : PSum b n S d (la ++ (lb ++ [(k, 0)])) (ta ++ ((0, sgn k) :: tb)) := fun g p x rest fl hG hx x1 x2 hF hl => by
  have hc : sgn k = 43 ∨ sgn k = 45 := by rcases hk with rfl | rfl <;> decide
  have hG : GS b n g p (ta ++ (0, sgn k) :: (tb ++ x :: rest)) := by
    have e : (ta ++ ((0, sgn k) :: tb)) ++ x :: rest = ta ++ (0, sgn k) :: (tb ++ x :: rest) := by simp
    rw [e] at hG
    exact hG
  have ll : fl.length + (la.length + (lb.length + 1)) ≤ 590 := by
    simp only [List.length_append, List.length_cons, List.length_nil] at hl
    omega
  obtain ⟨g1, m, g2, p2, a1, a2, a3, a4, a5, a6⟩ := ha g p (0, sgn k) (tb ++ x :: rest) fl hG (sg_O _) (fun y => by injection y with y1 y2; omega) (fun y => by injection y with y1 y2; omega) hF (by omega)
  obtain ⟨g3, p3, b1, b2, b3, b4⟩ := p_next hn hb a3 (sg_O _)
  obtain ⟨g4, p4, c1, c2, c3, c4, c5⟩ := hbb.term hn b2 hx x1 x2 (a4.ft b3) (by rw [List.length_append]; omega)
  obtain ⟨g5, d1, d2, d3, d4⟩ := p_add (s := (k, 0)) (v := -(nI (sgn k))) c2 c3 (by rw [List.length_append, List.length_append]; omega) (by rcases hk with rfl | rfl <;> rfl)
  refine ⟨g1, m + 1, g5, p4, a1, a2.trans ?_, d2, ?_, a5.trans ((GC.ftt b3).trans (c4.trans d4)), by omega⟩
  · rw [BS_step hn a3 (by omega) hc b1 c1, ← d1]
    rfl
  · rw [← List.append_assoc, ← List.append_assoc]
    exact d3
theorem toks_op {k : Nat} (hk : 2 ≤ k ∧ k ≤ 5) : toks (opI k) = [(0, sgn k)] := by
  have c : k = 2 ∨ k = 3 ∨ k = 4 ∨ k = 5 := by omega
  rcases c with rfl | rfl | rfl | rfl <;> rfl
/-- trees of m floors -/
theorem p_tree {D : gDS} (hn : n ≤ 700) (hb : ∀ j, b j < 256) : ∀ (m : Nat) (r : gRF) (l : List Stq) (tx : Nat → List Itm), GTX D m r l tx → (∀ f d, m ≤ f + 1 → d + m ≤ 5 → ∀ q, q ≤ 1 → PSum b n (R_X6_readSum f) d l (toks (tx q))) ∧ ∀ f d, m ≤ f → d + m ≤ 4 → PTer b n (R_X6_readSum f) d l (toks (tx 2)) ∧ PFac b n (R_X6_readSum f) d l (toks (tx 3))
  | 0, _, _, _, h => absurd h id
  | m + 1, r, l, tx, ⟨i, k, v, ra, rb, h1, h2, h3⟩ => by
    rcases h3 with ⟨q1, q2, rfl, q4⟩ | ⟨q1, q2, la, lb, ta, tb, q3, q4, rfl, q6⟩
    · refine ⟨fun f d _ _ q _ => ?_, fun f d _ _ => ⟨?_, ?_⟩⟩
      · rw [q4 q]
        exact ((PF_leaf hn hb q1 q2).ter).sum hn
      · rw [q4 2]
        exact (PF_leaf hn hb q1 q2).ter
      · rw [q4 3]
        exact PF_leaf hn hb q1 q2
    · obtain ⟨A1, A2⟩ := p_tree hn hb m ra la ta q3
      obtain ⟨B1, B2⟩ := p_tree hn hb m rb lb tb q4
      have et : ∀ q, q ≤ 1 → toks (tx q) = toks (ta (owk k)) ++ ((0, sgn k) :: toks (tb (owk k + 1))) := fun q hq => by
        have ho : ¬ owk k < q := by unfold owk; split <;> omega
        rw [q6 q, if_neg ho, toks_app, toks_app, toks_op ⟨q1, q2⟩]
        rfl
      have low : ∀ f d, m ≤ f → d + m ≤ 4 → PSum b n (R_X6_readSum f) d (la ++ (lb ++ [(k, 0)])) (toks (ta (owk k)) ++ ((0, sgn k) :: toks (tb (owk k + 1)))) := fun f d h1 h2 => by
        by_cases z : k < 4
        · have ho : owk k = 1 := by unfold owk; rw [if_pos z]
          rw [ho]
          exact PS_op hn hb (by omega) (A1 f d (by omega) (by omega) 1 (Nat.le_refl _)) (B2 f d h1 h2).1
        · have ho : owk k = 2 := by unfold owk; rw [if_neg z]
          rw [ho]
          exact (PT_op hn hb (by omega) (A2 f d h1 h2).1 (B2 f d h1 h2).2).sum hn
      have par : ∀ f d, m + 1 ≤ f → d + (m + 1) ≤ 4 → PFac b n (R_X6_readSum f) d (la ++ (lb ++ [(k, 0)])) ((0, 40) :: ((toks (ta (owk k)) ++ ((0, sgn k) :: toks (tb (owk k + 1)))) ++ [(0, 41)])) := fun f d h1 h2 => by
        obtain ⟨f', rfl⟩ : ∃ f', f = f' + 1 := ⟨f - 1, by omega⟩
        exact PF_par hn hb (by omega) (low f' (d + 1) (by omega) (by omega))
      have ep : ∀ q, owk k < q → toks (tx q) = (0, 40) :: ((toks (ta (owk k)) ++ ((0, sgn k) :: toks (tb (owk k + 1)))) ++ [(0, 41)]) := fun q hq => by
        rw [q6 q, if_pos hq, toks_tk (show ¬ (0 : Nat) = 3 by decide), toks_app, toks_app, toks_app, toks_op ⟨q1, q2⟩]
        simp [toks]
      refine ⟨fun f d h1 h2 q hq => ?_, fun f d h1 h2 => ⟨?_, ?_⟩⟩
      · rw [et q hq]
        exact low f d (by omega) (by omega)
      · by_cases z : k < 4
        · have ho : owk k = 1 := by unfold owk; rw [if_pos z]
          rw [ep 2 (by omega)]
          exact (par f d h1 h2).ter
        · have ho : owk k = 2 := by unfold owk; rw [if_neg z]
          rw [q6 2, if_neg (by omega), toks_app, toks_app, toks_op ⟨q1, q2⟩, ho]
          exact PT_op hn hb (by omega) (A2 f d (by omega) (by omega)).1 (B2 f d (by omega) (by omega)).2
      · have ho : owk k < 3 := by unfold owk; split <;> omega
        rw [ep 3 ho]
        exact par f d h1 h2
end PTR
