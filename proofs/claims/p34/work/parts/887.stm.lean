/-! ONE STATEMENT, both sides -/
def fl (hs : Bool) : Int32 := if hs then (1 : Int32) else (0 : Int32)
def HG (g r : PH) (hs : Bool) (p : Nat) : Prop := g.1 1 9 = fl hs ∧ r.1 122 15 = fl hs ∧ r.1 125 5 = fl hs ∧ r.1 125 4 = 0 ∧ r.1 122 14 = nI 0 ∧ ∃ l, FK g r l p (if hs then 1 else 0)
def FS (h h' : PH) : Prop := Fr (fun a => a = 1 ∨ (3 ≤ a ∧ a ≤ 11)) h h' ∧ ∀ j, j ≤ 4 → h'.1 1 j = h.1 1 j
def FZ (h h' : PH) : Prop := Fr (fun a => a = 122 ∨ a = 125) h h' ∧ ∀ j, ¬ (j = 4 ∨ j = 5 ∨ j = 6 ∨ j = 13 ∨ j = 14 ∨ j = 15) → h'.1 122 j = h.1 122 j
theorem FS.refl (h : PH) : FS h h := ⟨Fr.refl h, fun _ _ => rfl⟩
theorem FZ.refl (h : PH) : FZ h h := ⟨Fr.refl h, fun _ _ => rfl⟩
theorem FS.trans {h h' h'' : PH} (f : FS h h') (g : FS h' h'') : FS h h'' := ⟨f.1.trans g.1, fun j hj => (g.2 j hj).trans (f.2 j hj)⟩
theorem FZ.trans {h h' h'' : PH} (f : FZ h h') (g : FZ h' h'') : FZ h h'' := ⟨f.1.trans g.1, fun j hj => (g.2 j hj).trans (f.2 j hj)⟩
theorem FN.FS {h h' : PH} (f : FN h h') : FS h h' := ⟨f.1.mono (fun i hi => by omega), fun j hj => f.2 j (by omega)⟩
theorem FM.FZ {h h' : PH} (f : FM h h') : FZ h h' := ⟨f.1, fun j hj => f.2.1 j (by omega)⟩
theorem GC.FS {h h' : PH} (f : GC h h') : FS h h' := ⟨f.1.mono (fun i hi => by omega), fun j hj => f.2 j (by omega)⟩
theorem GR.FZ {h h' : PH} (f : GR h h') : FZ h h' := ⟨f.1, fun j hj => f.2.1 j (by omega)⟩
/-- the class's statement -/
noncomputable def cS (h : PH) : Option PH := (F_X6_isWord h 1001).bind fun z10 =>
      jn (fun (v12 : PH) => F_X6_takeSign v12 (59 : Int32)) (fun k11 =>
       if z10 = 0 then
        (F_X6_isWord h 1002).bind fun z14 =>
        if z14 = 0 then
         (F_X6_isWord h 1003).bind fun z15 =>
         if z15 = 0 then
          (F_X6_isWord h 1004).bind fun z16 =>
          if z16 = 0 then
           k11 ((F_X6_fail h (-2 : Int32)))
          else
           if ¬ (h.1 1 9) = 0 then
            k11 ((F_X6_fail h (-2 : Int32)))
           else
            (F_X6_next (pu h 1 9 (1 : Int32))).bind fun h17 =>
            (R_X6_readSum 8 h17 (0 : Int32)).bind fun h18 =>
            k11 h18
         else
          (F_X6_readDepot h).bind fun h19 =>
          k11 h19
        else
         (F_X6_readBan h).bind fun h20 =>
         k11 h20
       else
        (F_X6_readEdge h).bind fun h21 =>
        k11 h21)
section STM
variable {b : Nat → Nat} {n : Nat} {g r : PH} {N : NT}
theorem FK.far {l : List Stq} {p p' k : Nat} {g' r' : PH} (F : FK g r l p k) (hp : p ≤ p') (e1 : g'.1 10 = g.1 10) (e2 : g'.1 11 = g.1 11) (e3 : r'.1 125 6 = r.1 125 6) (e4 : ∀ j, 256 ≤ j → r'.1 125 j = r.1 125 j) : FK g' r' l p' k := by
  obtain ⟨f1, f2, f3, f4, f5, f6, f7, f8⟩ := F
  unfold FK
  rw [e1, e2, e3]
  exact ⟨f1, f2, f3, laid_ag2 (fun j h1 _ => e4 j h1) f4, f5, by omega, by omega, f8⟩
theorem HG.net {hs : Bool} {p p' : Nat} {g' r' : PH} (h : HG g r hs p) (hp : p ≤ p') (f : FN g g') (q : FM r r') : HG g' r' hs p' := by
  obtain ⟨h1, h2, h3, h4, h5, l, h6⟩ := h
  refine ⟨by rw [f.2 9 (by omega)]; exact h1, by rw [q.2.1 15 (by omega)]; exact h2, by rw [q.2.2 5 (by omega)]; exact h3, by rw [q.2.2 4 (by omega)]; exact h4, by rw [q.2.1 14 (by omega)]; exact h5, l, h6.far hp (f.1 10 (by omega)).1 (f.1 11 (by omega)).1 (q.2.2 6 (by omega)) (fun j hj => q.2.2 j (by omega))⟩
theorem JT.gg {p : Nat} {g' : PH} (J : JT b n g r p) (e1 : ∀ j, j ≠ 9 → g'.1 1 j = g.1 1 j) (e2 : g'.1 2 = g.1 2) : JT b n g' r p := by
  unfold JT CB TK at J ⊢
  rw [e1 4 (by omega), e1 5 (by omega), e1 6 (by omega), e1 7 (by omega), e1 8 (by omega), e1 10 (by omega), e1 11 (by omega), e2]
  exact J
end STM
