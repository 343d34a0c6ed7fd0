/-! ONE STATEMENT, both sides -/
def fl (hs : Bool) : Int32 := if hs then (1 : Int32) else (0 : Int32)
def HG (g r : PH) (hs : Bool) (p : Nat) : Prop := g.1 1 9 = fl hs ∧ r.1 122 15 = fl hs ∧ r.1 125 5 = fl hs ∧ r.1 125 4 = 0 ∧ r.1 122 14 = nI 0 ∧ ∃ l, FK g r l p (if hs then 1 else 0)
def FS (h h' : PH) : Prop := Fr (fun a => a = 1 ∨ (3 ≤ a ∧ a ≤ 11)) h h' ∧ ∀ j, j ≤ 4 → h'.1 1 j = h.1 1 j
def FZ (h h' : PH) : Prop := Fr (fun a => a = 122 ∨ a = 125) h h' ∧ ∀ j, ¬ (j = 4 ∨ j = 5 ∨ j = 6 ∨ j = 13 ∨ j = 14 ∨ j = 15) → h'.1 122 j = h.1 122 j
theorem FS.refl (h : PH) : FS h h := ⟨Fr.refl h, fun _ _ => rfl⟩
theorem FZ.refl (h : PH) : FZ h h := ⟨Fr.refl h, fun _ _ => rfl⟩
theorem FS.trans {h h' h'' : PH} (f : FS h h') (g : FS h' h'') : FS h h'' := ⟨f.1.trans g.1, fun j hj => (g.2 j hj).trans (f.2 j hj)⟩
theorem FZ.trans {h h' h'' : PH} (f : FZ h h') (g : FZ h' h'') : FZ h h'' := ⟨f.1.trans g.1, fun j hj => (g.2 j hj).trans (f.2 j hj)⟩
theorem FN.FS {h h' : PH} (f : FN h h') : FS h h' := ⟨f.1.mono (fun i hi => by omega), fun j hj => f.2 j (by omega)⟩
theorem FM.FZ {h h' : PH} (f : FM h h') : FZ h h' := ⟨f.1, fun j hj => f.2.1 j (by omega)⟩
theorem GC.FS {h h' : PH} (f : GC h h') : FS h h' := ⟨f.1.mono (fun i hi => by omega), fun j hj => f.2 j (by omega)⟩
theorem GR.FZ {h h' : PH} (f : GR h h') : FZ h h' := ⟨f.1, fun j hj => f.2.1 j (by omega)⟩
/-- the class's statement -/
noncomputable def cS (h : PH) : Option PH := (F_X6_isWord h 1001).bind fun z10 =>
      jn (fun (v12 : PH) => F_X6_takeSign v12 (59 : Int32)) (fun k11 =>
       if z10 = 0 then
        (F_X6_isWord h 1002).bind fun z14 =>
        if z14 = 0 then
         (F_X6_isWord h 1003).bind fun z15 =>
         if z15 = 0 then
          (F_X6_isWord h 1004).bind fun z16 =>
          if z16 = 0 then
           k11 ((F_X6_fail h (-2 : Int32)))
          else
           if ¬ (h.1 1 9) = 0 then
            k11 ((F_X6_fail h (-2 : Int32)))
           else
            (F_X6_next (pu h 1 9 (1 : Int32))).bind fun h17 =>
            (R_X6_readSum 8 h17 (0 : Int32)).bind fun h18 =>
            k11 h18
         else
          (F_X6_readDepot h).bind fun h19 =>
          k11 h19
        else
         (F_X6_readBan h).bind fun h20 =>
         k11 h20
       else
        (F_X6_readEdge h).bind fun h21 =>
        k11 h21)
section STM
variable {b : Nat → Nat} {n : Nat} {g r : PH} {N : NT}
theorem FK.far {l : List Stq} {p p' k : Nat} {g' r' : PH} (F : FK g r l p k) (hp : p ≤ p') (e1 : g'.1 10 = g.1 10) (e2 : g'.1 11 = g.1 11) (e3 : r'.1 125 6 = r.1 125 6) (e4 : ∀ j, 256 ≤ j → r'.1 125 j = r.1 125 j) : FK g' r' l p' k := by
  obtain ⟨f1, f2, f3, f4, f5, f6, f7, f8⟩ := F
  unfold FK
  rw [e1, e2, e3]
  exact ⟨f1, f2, f3, laid_ag2 (fun j h1 _ => e4 j h1) f4, f5, by omega, by omega, f8⟩
theorem HG.net {hs : Bool} {p p' : Nat} {g' r' : PH} (h : HG g r hs p) (hp : p ≤ p') (f : FN g g') (q : FM r r') : HG g' r' hs p' := by
  obtain ⟨h1, h2, h3, h4, h5, l, h6⟩ := h
  refine ⟨by rw [f.2 9 (by omega)]; exact h1, by rw [q.2.1 15 (by omega)]; exact h2, by rw [q.2.2 5 (by omega)]; exact h3, by rw [q.2.2 4 (by omega)]; exact h4, by rw [q.2.1 14 (by omega)]; exact h5, l, h6.far hp (f.1 10 (by omega)).1 (f.1 11 (by omega)).1 (q.2.2 6 (by omega)) (fun j hj => q.2.2 j (by omega))⟩
theorem NG.far {g' r' : PH} (c : NG g r N) (e1 : ∀ j, 3 ≤ j → j ≤ 9 → g'.1 j = g.1 j) (e2 : ∀ j, j < 192 → j ≠ 5 → j ≠ 6 → r'.1 125 j = r.1 125 j) : NG g' r' N := by
  obtain ⟨c1, ⟨l1, l2, l3, l4, l5, l6, l7⟩, c3, c4, c5⟩ := c
  have hE := c3.2.2.1
  have hD := c3.2.2.2.1
  have hn8 := c3.1
  refine ⟨c1.same (fun j hj => e1 _ (by omega) (by omega)), ⟨by rw [e2 0 (by omega) (by omega) (by omega)]; exact l1, by rw [e2 1 (by omega) (by omega) (by omega)]; exact l2, by rw [e2 2 (by omega) (by omega) (by omega)]; exact l3, by rw [e2 3 (by omega) (by omega) (by omega)]; exact l4, fun a ha => ?_, fun e he => ?_, fun d hd => ?_⟩, c3, c4, fun e v h1 h2 h3 => by rw [e2 _ (by omega) (by omega) (by omega)]; exact c5 e v h1 h2 h3⟩
  · have hh : wHd N a < wN N := (c3.2.2.2.2.1 _ (wFl_lt ha)).1
    rw [e2 _ (by omega) (by omega) (by omega), e2 _ (by omega) (by omega) (by omega), e2 _ (by omega) (by omega) (by omega)]
    exact l5 a ha
  · rw [e2 _ (by omega) (by omega) (by omega)]
    exact l6 e he
  · rw [e2 _ (by omega) (by omega) (by omega)]
    exact l7 d hd
theorem JT.gg {p : Nat} {g' : PH} (J : JT b n g r p) (e1 : ∀ j, j ≠ 9 → g'.1 1 j = g.1 1 j) (e2 : g'.1 2 = g.1 2) : JT b n g' r p := by
  unfold JT CB TK at J ⊢
  rw [e1 4 (by omega), e1 5 (by omega), e1 6 (by omega), e1 7 (by omega), e1 8 (by omega), e1 10 (by omega), e1 11 (by omega), e2]
  exact J
/-- the end of a statement -/
theorem stm_end {o : Option Nat} (hn : n ≤ 700) (hb : ∀ j, b j < 256) (J : Jo b n g r o) : ∃ g' r' o', F_X6_takeSign g (59 : Int32) = some g' ∧ ((F_X8_expect r (59 : Int32)).bind fun h5 => some (h5)) = some r' ∧ FE g g' ∧ FX r r' ∧ Jo b n g' r' o' ∧ ∀ p', o' = some p' → ∃ p, o = some p ∧ p < p' := by
  obtain ⟨g', r', o', a1, a2, a3⟩ := jo_sign (c := 59) hn hb (by omega) rfl rfl J
  exact ⟨g', r', o', a1, by rw [show F_X8_expect r (59 : Int32) = some r' from a2]; rfl, a3⟩
/-- the price's statement, behind its word -/
theorem j_serv {hs : Bool} {p : Nat} {r1 : PH} (hn : n ≤ 700) (hb : ∀ j, b j < 256) (J : JT b n g r p) (ng : NG g r N) (hg : HG g r hs p) (f : FQ r r1 (te b n (sk b n p))) (lt : sk b n p < n) :
    ∃ g' r' o', (if ¬ (g.1 1 9) = 0 then some (F_X6_fail g (-2 : Int32)) else (F_X6_next (pu g 1 9 (1 : Int32))).bind fun h17 => R_X6_readSum 8 h17 (0 : Int32)) = some g' ∧ ((ast 1556 (F_X8_once r1 (0 : Int32) (nI (sk b n p))) 125 (5 : Int32) (1 : Int32)).bind fun h9 => R_X8_sum 8 h9) = some r' ∧ FS g g' ∧ FZ r r' ∧ Jo b n g' r' o' ∧ ∀ p', o' = some p' → p < p' ∧ ∃ hs', NG g' r' N ∧ HG g' r' hs' p' := by
  obtain ⟨h1, h2, h3, h4, h5, l, h6⟩ := hg
  have r15 : r1.1 122 15 = fl hs := by rw [f.2.2 15 (by omega)]; exact h2
  have r5 : r1.1 122 5 = 0 := by rw [f.2.2 5 (by omega)]; exact J.2.2.2.2.2.1
  have htg := te_gt (b := b) lt
  have hpq := sk_ge (b := b) (n := n) p
  rw [h1]
  unfold F_X8_once
  rw [r15]
  cases hs with
  | true =>
    rw [if_pos (show ¬ fl true = 0 by decide), if_neg (show ¬ ¬ ((fl true) >>> ((0 : Int32) &&& 31)) &&& (1 : Int32) = (1 : Int32) by decide), i5, ast_in (by omega) (by omega), Option.bind_some]
    have Jf := j_fail (c := (-2 : Int32)) (by decide) J (J.2.1.fx f.FX) r5
    generalize hr2 : F_X8_report r1 (-2 : Int32) (nI (sk b n p)) = r2 at *
    have fx2 : FX r r2 := by rw [← hr2]; exact f.FX.trans rep_FX
    clear hr2
    generalize hr3 : pu (pu r2 122 15 (r2.1 122 15 ||| ((1 : Int32) <<< ((0 : Int32) &&& 31)))) 125 5 (1 : Int32) = r3
    have c3 : ∀ j, j ≠ 15 → r3.1 122 j = r2.1 122 j := fun j hj => by rw [← hr3, (pu_o _ 125 _ _ 122 (by omega)).1, pu_get, if_neg (fun z => hj z.2)]
    have c4 : r3.1 123 = r2.1 123 := by rw [← hr3, (pu_o _ 125 _ _ 123 (by omega)).1, (pu_o _ 122 _ _ 123 (by omega)).1]
    have f3 : FZ r2 r3 := ⟨by rw [← hr3]; exact (Fr.pu (S := fun a => a = 122 ∨ a = 125) (Or.inl rfl)).trans (Fr.pu (S := fun a => a = 122 ∨ a = 125) (Or.inr rfl)), fun j hj => c3 j (by omega)⟩
    clear hr3
    have J3 : JB b n (F_X6_fail g (-2 : Int32)) r3 := Jf.rr (fun j hj => c3 j (by omega)) c4
    exact ⟨_, r3, none, rfl, sum_RQ (by omega) r3 (jb_r5 J3), fail_FE.FN.FS, fx2.FM.FZ.trans f3, J3, fun p' z => by cases z⟩
  | false =>
    rw [if_neg (show ¬ ¬ fl false = 0 by decide), if_pos (show ¬ ((fl false) >>> ((0 : Int32) &&& 31)) &&& (1 : Int32) = (1 : Int32) by decide), i5, ast_in (by omega) (by omega), Option.bind_some, show fl false ||| ((1 : Int32) <<< ((0 : Int32) &&& 31)) = (1 : Int32) by decide]
    have c9 : ∀ j, j ≠ 9 → (pu g 1 9 (1 : Int32)).1 1 j = g.1 1 j := fun j hj => by rw [pu_get, if_neg (fun z => hj z.2)]
    have J9 : JT b n (pu g 1 9 (1 : Int32)) r p := J.gg c9 (pu_o g 1 9 _ 2 (by omega)).1
    obtain ⟨g1, a1, a2, a3⟩ := j_go hn hb J9 f.FX f.2.1 rfl r5 (f.2.2 6 (by omega))
    generalize hr2 : pu (pu r1 122 15 (1 : Int32)) 125 5 (1 : Int32) = r2
    have c3 : ∀ j, j ≠ 15 → r2.1 122 j = r1.1 122 j := fun j hj => by rw [← hr2, (pu_o _ 125 _ _ 122 (by omega)).1, pu_get, if_neg (fun z => hj z.2)]
    have c4 : r2.1 123 = r1.1 123 := by rw [← hr2, (pu_o _ 125 _ _ 123 (by omega)).1, (pu_o _ 122 _ _ 123 (by omega)).1]
    have c5 : ∀ j, j ≠ 5 → r2.1 125 j = r1.1 125 j := fun j hj => by rw [← hr2, pu_get, if_neg (fun z => hj z.2), (pu_o _ 122 _ _ 125 (by omega)).1]
    have c15 : r2.1 122 15 = 1 := by rw [← hr2, (pu_o _ 125 _ _ 122 (by omega)).1, pu_get, if_pos ⟨rfl, rfl⟩]
    have c55 : r2.1 125 5 = 1 := by rw [← hr2, pu_get, if_pos ⟨rfl, rfl⟩]
    have f2 : FZ r1 r2 := ⟨by rw [← hr2]; exact (Fr.pu (S := fun a => a = 122 ∨ a = 125) (Or.inl rfl)).trans (Fr.pu (S := fun a => a = 122 ∨ a = 125) (Or.inr rfl)), fun j hj => c3 j (by omega)⟩
    clear hr2
    have e125 : r1.1 125 = r.1 125 := (f.1 125 (by omega)).1
    have J2 : JT b n g1 r2 (te b n (sk b n p)) := a3.rr (fun j hj => c3 j (by omega)) c4
    have F2 : FK g1 r2 l (te b n (sk b n p)) 0 := h6.far (by omega) (by rw [(a2.1 10 (by omega)).1]; rfl) (by rw [(a2.1 11 (by omega)).1]; rfl) (by rw [c5 6 (by omega), e125]) (fun j hj => by rw [c5 j (by omega), e125])
    have n14 : r2.1 122 14 = nI 0 := by rw [c3 14 (by omega), f.2.2 14 (by omega)]; exact h5
    obtain ⟨g', r', b1, b2, b3, b4, b5⟩ := (sum_ok hn hb 8 0 (by omega) (by omega)).1 g1 r2 l (te b n (sk b n p)) 0 0 (Nat.le_refl _) J2 F2 n14
    rw [a1, Option.bind_some, show R_X6_readSum 8 g1 (0 : Int32) = some g' from b1, b2]
    have gs : FS g g' := (FS.trans ⟨Fr.pu (by omega), fun j hj => c9 j (by omega)⟩ a2.FN.FS).trans b3.FS
    have rs : FZ r r' := (f.FX.FM.FZ.trans f2).trans b4.FZ
    rcases b5 with ⟨l', p', d1, d2, d3, d4⟩ | d1
    · refine ⟨g', r', some p', rfl, rfl, gs, rs, d1, fun p2 z => ?_⟩
      cases z
      refine ⟨by omega, true, ng.far (fun j h1 h2 => ?_) (fun j h1 h2 h3 => ?_), ?_, ?_, ?_, ?_, d4, l', d2⟩
      · rw [(b3.1 j (by omega)).1, (a2.1 j (by omega)).1, (pu_o g 1 9 _ j (by omega)).1]
      · rw [b4.2.2 j (by omega) h3, c5 j h2, e125]
      · rw [b3.2 9 (by omega), a2.2 9 (by omega), pu_get, if_pos ⟨rfl, rfl⟩]
        rfl
      · rw [b4.2.1 15 (by omega), c15]
        rfl
      · rw [b4.2.2 5 (by omega) (by omega), c55]
        rfl
      · rw [b4.2.2 4 (by omega) (by omega), c5 4 (by omega), e125]
        exact h4
    · exact ⟨g', r', none, rfl, rfl, gs, rs, d1, fun p2 z => by cases z⟩
end STM
