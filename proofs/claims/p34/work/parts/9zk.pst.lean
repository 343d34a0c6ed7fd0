/-! THE CLASS'S READER OVER TOKENS -/
def GS (b : Nat → Nat) (n : Nat) (g : PH) (p : Nat) (l : List Itm) : Prop := CB b n g ∧ TK b n g p ∧ LX b n p l ∧ g.1 1 10 = 0 ∧ g.1 1 11 = (-1 : Int32)
theorem wc_uq : ∀ i, i < 7 → ∀ j, j < 7 → slenF i = slenF j → (∀ k, k < slenF i → wc i k = wc j k) → i = j := by decide +kernel
section PST
variable {b : Nat → Nat} {n : Nat} {g : PH}
theorem k10 : ¬ (1 : Nat) = 0 := by decide
theorem k12 : ¬ (1 : Nat) = 2 := by decide
theorem k02 : ¬ (0 : Nat) = 2 := by decide
theorem k01 : ¬ (0 : Nat) = 1 := by decide
theorem k20 : ¬ (2 : Nat) = 0 := by decide
theorem k21 : ¬ (2 : Nat) = 1 := by decide
theorem WM_uq {i j q : Nat} (hi : i < 7) (hj : j < 7) (h1 : WM b n i q) (h2 : WM b n j q) : i = j := by
  have e1 := (WM_tok hi h1).2.2
  have e2 := (WM_tok hj h2).2.2
  have e : slenF i = slenF j := by omega
  exact wc_uq i hi j hj e (fun k hk => (h1.2.1 k hk).symm.trans (h2.2.1 k (by omega)))
theorem tkA_lt {q : Nat} {x : Itm} (h : tkA b n q x) (hx : x.1 = 2 → x.2 < 7) : q < n := by
  rcases Nat.lt_or_ge q n with z | z
  · exact z
  · have e : kd b n q = 258 := by
      unfold kd
      rw [if_neg (by omega)]
    rcases h with ⟨-, h1, h2⟩ | ⟨-, h1, -⟩ | ⟨h0, h1⟩
    · omega
    · omega
    · exact (WM_tok (hx h0) h1).1
theorem GS.same {g' : PH} {p : Nat} {l : List Itm} (h : GS b n g p l) (e1 : g'.1 1 = g.1 1) (e2 : g'.1 2 = g.1 2) : GS b n g' p l := by
  obtain ⟨⟨h1, h2⟩, ⟨t1, t2, t3, t4, t5⟩, h3, h4, h5⟩ := h
  refine ⟨⟨by rw [e1]; exact h1, by rw [e2]; exact h2⟩, ⟨t1, by rw [e1]; exact t2, by rw [e1]; exact t3, by rw [e1]; exact t4, by rw [e1]; exact t5⟩, h3, by rw [e1]; exact h4, by rw [e1]; exact h5⟩
/-- valid tokens -/
def tkO (x : Itm) : Prop := x.1 = 2 → x.2 < 7
theorem GS.le {p : Nat} {l : List Itm} (h : GS b n g p l) : p ≤ n := h.2.1.1
theorem GS.lt {p : Nat} {x : Itm} {l : List Itm} (h : GS b n g p (x :: l)) (hx : tkO x) : p < n := by
  have := tkA_lt h.2.2.1.1 hx
  have := sk_ge (b := b) (n := n) p
  omega
theorem p_next {p : Nat} {x : Itm} {l : List Itm} (hn : n ≤ 700) (hb : ∀ j, b j < 256) (h : GS b n g p (x :: l)) (hx : tkO x) : ∃ g' p', F_X6_next g = some g' ∧ GS b n g' p' l ∧ FT g g' ∧ p < p' := by
  obtain ⟨h1, h2, h3, h4, h5⟩ := h
  have hq := tkA_lt h3.1 hx
  have h6 := h2.2.2.1
  have ht := te_gt (b := b) hq
  have := sk_ge (b := b) (n := n) p
  obtain ⟨g', a1, a2, a3⟩ := c_next hn hb h1 (p := te b n (sk b n p)) (by omega) h6
  exact ⟨g', _, a1, ⟨h1.ft a2, a3, h3.2, (a2.2 10 (by omega)).trans h4, (a2.2 11 (by omega)).trans h5⟩, a2, by omega⟩
theorem p_num {p v lo hi : Nat} {l : List Itm} (hn : n ≤ 700) (hb : ∀ j, b j < 256) (h : GS b n g p ((1, v) :: l)) (h1 : lo ≤ v) (h2 : v ≤ hi) (h3 : hi < 100000) : ∃ g' p', F_X6_takeNumber g (nI lo) (nI hi) = some (nI v, g') ∧ GS b n g' p' l ∧ FT g g' ∧ p < p' := by
  obtain ⟨g', p', a1, a2, a3, a4⟩ := p_next hn hb h (fun z => absurd z k12)
  have t := h.2.1
  have k := h.2.2.1.1
  have e1 : kd b n (sk b n p) = 256 ∧ vlc b n (sk b n p) = v := by
    rcases k with ⟨z, -⟩ | ⟨-, y1, y2⟩ | ⟨z, -⟩
    · exact absurd z k10
    · exact ⟨y1, y2⟩
    · exact absurd z k12
  have e7 : g.1 1 7 = (256 : Int32) := by rw [t.2.2.2.1, e1.1]; rfl
  have e8 : g.1 1 8 = nI v := by rw [t.2.2.2.2, e1.2]
  refine ⟨g', p', ?_, a2, a3, a4⟩
  unfold F_X6_takeNumber
  rw [if_pos e7, e8, if_neg (fun z => by have := (nI_lt' (by omega) (by omega)).mp z; omega), if_pos ((nI_le' (by omega) (by omega)).mpr h2), a1, Option.bind_some]
theorem p_sign {p c : Nat} {l : List Itm} (hn : n ≤ 700) (hb : ∀ j, b j < 256) (h : GS b n g p ((0, c) :: l)) : ∃ g' p', F_X6_takeSign g (nI c) = some g' ∧ GS b n g' p' l ∧ FT g g' ∧ p < p' := by
  obtain ⟨g', p', a1, a2, a3, a4⟩ := p_next hn hb h (fun z => absurd z k02)
  have t := h.2.1
  have e1 : kd b n (sk b n p) = c := by
    rcases h.2.2.1.1 with ⟨-, y1, -⟩ | ⟨z, -⟩ | ⟨z, -⟩
    · exact y1
    · exact absurd z k01
    · exact absurd z k02
  refine ⟨g', p', ?_, a2, a3, a4⟩
  unfold F_X6_takeSign
  rw [if_pos (by rw [t.2.2.2.1, e1]), a1, Option.bind_some]
/-- the kind of the token at hand -/
theorem p_kind {p : Nat} {x : Itm} {l : List Itm} (h : GS b n g p (x :: l)) (hx : tkO x) : g.1 1 7 = nI (if x.1 = 0 then x.2 else if x.1 = 1 then 256 else 257) := by
  rw [h.2.1.2.2.2.1]
  congr 1
  rcases h.2.2.1.1 with ⟨z, y1, -⟩ | ⟨z, y1, -⟩ | ⟨z, y1⟩
  · rw [if_pos z, y1]
  · rw [if_neg (by omega), if_pos z, y1]
  · rw [if_neg (by omega), if_neg (by omega), (WM_tok (hx z) y1).2.1]
theorem p_sgn {p : Nat} {x : Itm} {l : List Itm} (h : GS b n g p (x :: l)) (hx : tkO x) {c : Nat} (hc : c < 128) : g.1 1 7 = nI c ↔ x = (0, c) := by
  rw [p_kind h hx]
  have hs : x.1 = 0 → x.2 < 128 := fun z => by
    rcases h.2.2.1.1 with ⟨-, -, y1⟩ | ⟨y, -⟩ | ⟨y, -⟩ <;> omega
  obtain ⟨k, v⟩ := x
  have e : nI (if k = 0 then v else if k = 1 then 256 else 257) = nI c ↔ (if k = 0 then v else if k = 1 then 256 else 257) = c := nI_eq (by
    by_cases z : k = 0
    · rw [if_pos z]
      have : v < 128 := hs z
      omega
    · rw [if_neg z]
      split <;> omega) (by omega)
  show nI (if k = 0 then v else if k = 1 then 256 else 257) = nI c ↔ _
  rw [e]
  constructor
  · intro y
    by_cases z : k = 0
    · rw [if_pos z] at y
      rw [z, y]
    · rw [if_neg z] at y
      split at y <;> omega
  · intro y
    injection y with y1 y2
    rw [if_pos y1, y2]
theorem p_isw {p j : Nat} {x : Itm} {l : List Itm} (hn : n ≤ 700) (hb : ∀ j, b j < 256) (h : GS b n g p (x :: l)) (hx : tkO x) (hj : j < 7) : F_X6_isWord g (1000 + j) = some (if x = (2, j) then (1 : Int32) else (0 : Int32)) := by
  obtain ⟨c1, c2⟩ := c_isWord hn hb h.1 h.2.1 hj
  by_cases q : x = (2, j)
  · rw [if_pos q]
    refine c1 ?_
    rcases h.2.2.1.1 with ⟨z, -⟩ | ⟨z, -⟩ | ⟨z, y⟩
    · rw [q] at z
      exact absurd z k20
    · rw [q] at z
      exact absurd z k21
    · rw [q] at y
      exact y
  · rw [if_neg q]
    refine c2 (fun w => ?_)
    have kw := (WM_tok hj w).2.1
    rcases h.2.2.1.1 with ⟨z, y, y2⟩ | ⟨z, y, -⟩ | ⟨z, y⟩
    · omega
    · omega
    · have := WM_uq (hx z) hj y w
      apply q
      obtain ⟨k, v⟩ := x
      have z : k = 2 := z
      have this : v = j := this
      rw [z, this]
/-- the class's formula so far -/
def FG (g : PH) (l : List Stq) : Prop := g.1 10 2 = nI l.length ∧ ∀ i s, l[i]? = some s → g.1 11 i = encS s
theorem FG.same {g' : PH} {l : List Stq} (h : FG g l) (e1 : g'.1 10 = g.1 10) (e2 : g'.1 11 = g.1 11) : FG g' l := ⟨by rw [e1]; exact h.1, fun i s hi => by rw [e2]; exact h.2 i s hi⟩
theorem FG.ft {g' : PH} {l : List Stq} (h : FG g l) (f : FT g g') : FG g' l := h.same (f.1 10 (by omega)).1 (f.1 11 (by omega)).1
theorem p_add {p : Nat} {ts : List Itm} {l : List Stq} {s : Stq} {v : Int32} (h : GS b n g p ts) (hF : FG g l) (hl : l.length < 600) (hv : encS s = v) : ∃ g', F_X0_addOperand g v = g' ∧ GS b n g' p ts ∧ FG g' (l ++ [s]) ∧ GC g g' := by
  obtain ⟨g', a1, a2, a3, a4⟩ := c_add (v := v) hF.1 (by omega)
  refine ⟨g', a1, h.same (a2 1 (by omega)).1 (a2 2 (by omega)).1, ⟨by rw [a3, List.length_append]; rfl, fun i t hi => ?_⟩, GC.of11 a2⟩
  rw [a4 i]
  by_cases q : i = l.length
  · rw [if_pos q, ← hv]
    rw [q, List.getElem?_append_right (Nat.le_refl _), Nat.sub_self] at hi
    injection hi with hi
    rw [hi]
  · rw [if_neg q]
    have hlt : i < l.length := by
      have := (List.getElem?_eq_some_iff.mp hi).1
      rw [List.length_append] at this
      have : i < l.length + 1 := this
      omega
    rw [List.getElem?_append_left hlt] at hi
    exact hF.2 i t hi
end PST
