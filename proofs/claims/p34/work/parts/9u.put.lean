/-! CITY'S put -/
section PUT
variable {D : gDS} {c e b d hh tt g : Nat} {N : NT} {sv : gRF} {P : PT}
theorem CV.exT {A B : gDS} {ts : List gRF} (h : CV A c N sv e b d hh tt g) (x : gE (fun j => j = tt) A B) (ht : tQ A tt ts) (ne : e ≠ tt ∧ b ≠ tt ∧ g ≠ tt) : CV B c N sv e b d hh tt g := by
  have nI' : ∀ ys, ¬ tI A tt ys := fun ys z => by
    have := (show A.1[tt]? = _ from ht).symm.trans z
    cases this
  have nO : ∀ k vs, ¬ tO A tt k vs := fun k vs z => by
    have := (show A.1[tt]? = _ from ht).symm.trans z
    cases this
  obtain ⟨h1, h2, h3, h4, h5, h6⟩ := h
  refine ⟨h1.ext x (fun q => nO 8 _ (q ▸ h1)), h2.ext x (fun i _ q => ⟨fun z => ne.1 (z.symm.trans q), fun ys z => nI' ys (q ▸ z)⟩), h3.ext x (fun i _ q => ⟨fun z => ne.2.1 (z.symm.trans q), fun ys z => nI' ys (q ▸ z)⟩), ⟨x.tQ (fun q => ne.2.2 q) h4.1, fun y hy => x.tI (fun q => nI' _ (q ▸ h4.2 y hy)) (h4.2 y hy)⟩, h5.ext x (fun i _ q vs z => nO 9 vs (q ▸ z)), x.tI (fun q => nI' _ (q ▸ h6)) h6⟩
theorem g_put {i t k x : Nat} {w : Int32} (hw : WQ N P) (hV : CV D c N sv e b d hh tt g) (hP : GP D P hh tt) (ht : t < pT P) (hk : k ≤ pL P t) (h13 : pL P t ≤ 13) (hB : tI D i [w, nI t, nI k, nI x]) : ∃ D', F_X8_put D (rf c) (rf i) = some D' ∧ GP D' (setT P t (pL P t + 1) (insA (pA P t) k x)) hh tt ∧ gE (fun j => j = tt) D D' ∧ gMd 1 (pL P t + 1) D D' := by
  have h4 := hw.1
  have r1 : gIld D (rf i) 1 (1 : Int32) = some (nI t) := gIld_t (a := 1) hB (by show 1 < 4; omega) (by omega)
  have r2 : gIld D (rf i) 1 (2 : Int32) = some (nI k) := gIld_t (a := 2) hB (by show 2 < 4; omega) (by omega)
  have r3 : gIld D (rf i) 1 (3 : Int32) = some (nI x) := gIld_t (a := 3) hB (by show 3 < 4; omega) (by omega)
  obtain ⟨j, g1, g2⟩ := hP.row ht h4
  obtain ⟨D1, p1, p2, p3, p4, p5⟩ := g_ins (k := k) (x := x) g2 (by omega) hk
  have hP1 := hP.ext p3
  obtain ⟨q1, ts, q2, q3, q4⟩ := hP1
  have s := gQst_t (a := t) (j := D.1.length) q2 (by omega) (by omega) p2
  have htt := tQ_lt q2
  unfold F_X8_put
  rw [gRv_t hV.1, Option.bind_some, gFr_t hV.1 (b := 7) rfl, Option.bind_some, r1, Option.bind_some, Option.bind_some, Option.bind_some, g1, Option.bind_some, r2, Option.bind_some, r3, Option.bind_some, p1, Option.bind_some]
  have s : gQst D1 (rf tt) (nI t) (gTop D) = some (gSet D1 tt (.inr (.inr (.inr (6, ts.set t (rf D.1.length)))))) := s
  have ne : ∀ {l : Nat} {ys : List Int32}, tI D1 l ys → tt ≠ l := fun {l ys} z q => by
    have := (show D1.1[tt]? = _ from q2).symm.trans (q ▸ z)
    cases this
  refine ⟨gSet D1 tt (.inr (.inr (.inr (6, ts.set t (rf D.1.length))))), ?_, ⟨?_, ts.set t (rf D.1.length), gSet_at htt, ?_, fun u hu => ?_⟩, ?_, ?_⟩
  · rw [s]
    rfl
  · exact (gSet_ne (ne q1)).trans q1
  · rw [List.length_set]
    exact q3
  · have hu : u < pT P := hu
    by_cases z : u = t
    · refine ⟨D.1.length, ?_, ?_⟩
      · rw [z]
        exact List.getElem?_set_self (by omega)
      · refine (gSet_ne (ne p2)).trans ?_
        show D1.1[D.1.length]? = some (.inr (.inl (1, rw8 (if u = t then pL P t + 1 else pL P u) (fun y => (if u = t then insA (pA P t) k x else pA P u) y))))
        rw [if_pos z, if_pos z]
        exact p2
    · obtain ⟨l, m1, m2⟩ := q4 u hu
      refine ⟨l, ?_, ?_⟩
      · rw [List.getElem?_set_ne (fun q => z q.symm)]
        exact m1
      · refine (gSet_ne (ne m2)).trans ?_
        show D1.1[l]? = some (.inr (.inl (1, rw8 (if u = t then pL P t + 1 else pL P u) (fun y => (if u = t then insA (pA P t) k x else pA P u) y))))
        rw [if_neg z, if_neg z]
        exact m2
  · exact ⟨by rw [gSet_len]; exact p3.1, fun l hl hn => (gSet_ne (fun q => hn q.symm)).trans (p3.2 l hl (fun q => q))⟩
  · exact ⟨p5.1, p5.2⟩
end PUT
