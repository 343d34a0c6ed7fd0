/-! THE WALK OF THE LAW'S TURN -/
theorem gpwT_inv {Cal : Nat → List gPV → gST → gPO → gST → Prop} {X : Nat → List Value → PH → PO → PH → Prop} {mi : gMI} {PT9 : gLV → gST → Prop}
    (hC : ∀ (k : Nat) (as : List gPV) (S : gST) (o : gPO) (S' : gST), Cal k as S o S' → gvD S.2 = true → as.all (gvv S.2.1.length) = true → gLeft S o S') :
    ∀ (n pc : Nat) (lv : gLV) (st : List gPV) (S : gST), gpwT Cal X mi (fun _ _ => False) PT9 n pc lv st S → gInv S.2 lv st → ∃ lv' S', PT9 lv' S' ∧ gvD S'.2 = true ∧ gGr S.2 S'.2 ∧ lv'.all (gvo S'.2.1.length) = true := by
  intro n
  induction n with
  | zero =>
    intro pc lv st S hp hi
    exact ⟨lv, S, hp.2.2, hi.1, gGr.rf _, hi.2.1⟩
  | succ n ih =>
    intro pc lv st S hp hi
    obtain ⟨e0, hm, hp⟩ := hp
    rcases hp with ⟨pc', lv', st', S1, hs, hk1⟩ | ⟨o, hr1, hQ⟩ | ⟨mm, hk1⟩ | ⟨k', as, r, o1, S1, hpc, hrc, hz, hcal, hk1⟩ | ⟨k', as, r, v, h1, hpc, hrc, hz, hcal, hk1⟩
    · obtain ⟨j1, j2⟩ := gstep_inv hs hi
      obtain ⟨o, S', q1, q2, q3, q4⟩ := ih _ _ _ _ hk1 j1
      exact ⟨o, S', q1, q2, j2.tr q3, q4⟩
    · exact hQ.elim
    · obtain ⟨o, S', q1, q2⟩ := ih _ _ _ _ hk1 ⟨hi.1, gmask_all rfl hi.2.1, hi.2.2⟩
      exact ⟨o, S', q1, q2⟩
    · obtain ⟨b, hpo⟩ := gcall_pop hpc
      obtain ⟨g1, g2⟩ := gpop_all hpo hi.2.2
      obtain ⟨j1, j2, j3⟩ := hC _ _ _ _ _ hcal hi.1 g1
      obtain ⟨o, S', q1, q2, q3, q4⟩ := ih _ _ _ _ hk1 ⟨j1, all_mono (fun x => gvo_mono j2.1) hi.2.1, by rw [List.all_append, j3, all_mono (fun x => gvv_mono j2.1) g2]; rfl⟩
      exact ⟨o, S', q1, q2, j2.tr q3, q4⟩
    · obtain ⟨b, hpo⟩ := gxcall_pop hpc
      obtain ⟨g1, g2⟩ := gpop_all hpo hi.2.2
      have hg9 : gGr S.2 (gBm S.2 (mcOf k')) := ⟨Nat.le_refl _, Nat.le_add_right .., Nat.le_add_right ..⟩
      obtain ⟨o, S', q1, q2, q3, q4⟩ := ih _ _ _ _ hk1 ⟨hi.1, hi.2.1, by rw [List.all_append, gxo_all, Bool.true_and]; exact g2⟩
      exact ⟨o, S', q1, q2, hg9.tr q3, q4⟩
section GWT
variable {p : Program} {l : Launch} {e : Env} {R : Room} {s : State} {m : MethodId} {args : Array Value} {below : List Frame} {meth : Method} {c : Code} {Q : State → Prop}
variable {z : PP} {k L : Nat} {xs : Nat → Int32} {n0 : Nat} {ad0 : Nat → Nat} {c0 s0 pc : Nat} {lv : gLV} {st : List gPV} {S S' : gST}
set_option maxHeartbeats 4000000 in
theorem gwalkT {dX d : Nat} (hst : l.stackTraces = false) (hf : GF z) (hL : L ≤ 3072) (IH : ∀ (k : Nat) (as : List gPV) (S : gST) (o : gPO) (S' : gST), gEx dX d k as S o S' → k < 74 → gvD S.2 = true → as.all (gvv S.2.1.length) = true → Con2 l z L xs dX d k as S o S')
    (C : GX k p s m args c) (K : GK z L xs s) (hmn : meth.name = (gyO k).name) {PT9 : gLV → gST → Prop} (hR : 41 + dX + d ≤ R.frames ∧ 1028 + 60 * (dX + d) ≤ R.locals) (hRc : ∀ lv S', PT9 lv S' → S'.2.2.1 - c0 ≤ R.cells ∧ S'.2.2.2 - s0 ≤ R.slots)
    (E4 : ∀ (lv : gLV) (S : gST), PT9 lv S → gInv S.2 lv [] → n0 ≤ S.2.1.length → (c0 ≤ S.2.2.1 ∧ s0 ≤ S.2.2.2) → gGoal p l e R s m args below meth c Q z k L xs n0 ad0 c0 s0 4 lv [] S) :
    ∀ (n pc : Nat) (lv : gLV) (st : List gPV) (S : gST), gpwT (gEx dX d) (Ex dX) (gmiOf k) (fun _ _ => False) PT9 n pc lv st S → gInv S.2 lv st → n0 ≤ S.2.1.length → (c0 ≤ S.2.2.1 ∧ s0 ≤ S.2.2.2) → gGoal p l e R s m args below meth c Q z k L xs n0 ad0 c0 s0 pc lv st S := by
  intro n
  induction n with
  | zero =>
    intro pc lv st S hp hi hn hcs
    obtain ⟨rfl, rfl, hp⟩ := hp
    exact E4 lv S hp hi hn hcs
  | succ n ih =>
    intro pc lv st S hp hi hn hcs
    obtain ⟨e0, hm, hp⟩ := hp
    have hR2 : 10 ≤ R.frames ∧ 200 ≤ R.locals := ⟨by omega, by omega⟩
    rcases hp with ⟨pc', lv', st', S1, hs, hk1⟩ | ⟨o, hr1, hQ⟩ | ⟨mm, hk1⟩ | ⟨k', as, r, o1, S1, hpc, hrc, hz, hcal, hk1⟩ | ⟨k', as, r, v, h1, hpc, hxo, hz, hcal, hk1⟩
    · obtain ⟨j1, j2⟩ := gstep_inv hs hi
      obtain ⟨o, S', q1, q2, q3, q4⟩ := gpwT_inv (fun k as S o S' => gEx_inv d k as S o S') n _ _ _ _ hk1 j1
      have hr9 := hRc o S' q1
      have a1 := j2.1; have a2 := j2.2.1; have a3 := j2.2.2
      have b1 := q3.2.1; have b2 := q3.2.2
      exact gstep_ok C K hf hR2 hL hmn hm hs hi hn hcs ⟨by dsimp only at *; omega, by dsimp only at *; omega⟩ (ih _ _ _ _ hk1 j1 (Nat.le_trans hn a1) ⟨Nat.le_trans hcs.1 a2, Nat.le_trans hcs.2 a3⟩)
    · exact hQ.elim
    · intro ad H locs ls hag hP hD hS hq hl
      exact ih _ _ _ _ hk1 ⟨hi.1, gmask_all rfl hi.2.1, hi.2.2⟩ hn hcs ad H locs ls hag hP hD hS hq ⟨hl.1, hl.2.1, fun i v g => hl.2.2 i v (gmask_sub g)⟩
    · intro ad H locs ls hag hP hD hS hq hl
      obtain ⟨b, hpo⟩ := gcall_pop hpc
      obtain ⟨g1, g2⟩ := gpop_all hpo hi.2.2
      obtain ⟨j1, j2, j3⟩ := gEx_inv _ _ _ _ _ _ hcal hi.1 g1
      have hi2 : gInv S1.2 lv (o1.toList ++ r) := ⟨j1, all_mono (fun x => gvo_mono j2.1) hi.2.1, by rw [List.all_append, j3, all_mono (fun x => gvv_mono j2.1) g2]; rfl⟩
      obtain ⟨o, S', q1, q2, q3, q4⟩ := gpwT_inv (fun k as S o S' => gEx_inv d k as S o S') n _ _ _ _ hk1 hi2
      have hr9 := hRc o S' q1
      have a1 := j2.1; have a2 := j2.2.1; have a3 := j2.2.2
      have b1 := q3.2.1; have b2 := q3.2.2
      obtain ⟨hnx, hrun⟩ := gcall_run (cells := S.2.2.1 - c0) (slots := S.2.2.2 - s0) hf hcal (fun hk => IH _ _ _ _ _ hcal hk hi.1 g1) C K hm hpc hrc hz ⟨hR.1, hR.2, by omega, by omega⟩ hP hD hS hq hl.1
      refine grun_W hrun hS (fun ad' H1 locs1 hag' hP1 hD1 hq1 hS1 => ?_)
      have hg : ∀ i, i < S.2.1.length → gadr z ad' (.inl i) = gadr z ad (.inl i) := hag'
      have g := ih _ _ _ _ hk1 hi2 (Nat.le_trans hn a1) ⟨Nat.le_trans hcs.1 a2, Nat.le_trans hcs.2 a3⟩ ad' H1 locs1 ls (fun i h9 => (hag' i (Nat.lt_of_lt_of_le h9 hn)).trans (hag i h9)) hP1 hD1 hS1 hq1 (gLH_ag (f := gadr z ad) (n := S.2.1.length) (fun _ => rfl) hg hl hi.2.1)
      rw [hnx] at g
      have e9 : (o1.map (gimg (gadr z ad'))).toList ++ r.map (gimg (gadr z ad)) = (o1.toList ++ r).map (gimg (gadr z ad')) := by
        rw [List.map_append, gst_ag (f := gadr z ad) (g := gadr z ad') (n := S.2.1.length) (fun _ => rfl) hg g2]
        cases o1 <;> rfl
      rw [e9, show S.2.2.1 - c0 + (S1.2.2.1 - S.2.2.1) = S1.2.2.1 - c0 by omega, show S.2.2.2 - s0 + (S1.2.2.2 - S.2.2.2) = S1.2.2.2 - s0 by omega]
      exact g
    · intro ad H locs ls hag hP hD hS hq hl
      obtain ⟨b, hpo⟩ := gxcall_pop hpc
      obtain ⟨g1, g2⟩ := gpop_all hpo hi.2.2
      have hi2 : gInv (gBm S.2 (mcOf k')) lv ((gxo v).toList ++ r) := ⟨hi.1, hi.2.1, by rw [List.all_append, gxo_all, Bool.true_and]; exact g2⟩
      obtain ⟨o, S', q1, q2, q3, q4⟩ := gpwT_inv (fun k as S o S' => gEx_inv d k as S o S') n _ _ _ _ hk1 hi2
      have hr9 := hRc o S' q1
      have b1 : S.2.2.1 + mcOf k' ≤ S'.2.2.1 := q3.2.1
      have b2 : S.2.2.2 + 6 * mcOf k' ≤ S'.2.2.2 := q3.2.2
      obtain ⟨hnx, hrun⟩ := gxcall_run (p := p) (e := e) (R := R) (s := s) (args := args) (below := below) (meth := meth) (c := c) (z := z) (xs := xs) (L := L) (cells := S.2.2.1 - c0) (slots := S.2.2.2 - s0) hst hf hL C K hm hpc hxo hz hcal ⟨by omega, by omega, by omega, by omega⟩ hP hS hq hl.1
      refine grun_X hf hrun hP hD hS (fun H1 locs1 hP1 hD1 hq1 hS1 => ?_)
      have g := ih _ _ _ _ hk1 hi2 hn ⟨Nat.le_trans hcs.1 (Nat.le_add_right ..), Nat.le_trans hcs.2 (Nat.le_add_right ..)⟩ ad H1 locs1 ls hag hP1 hD1 hS1 hq1 hl
      rw [hnx] at g
      have e9 : (v.map (img z.2.2.1)).toList ++ r.map (gimg (gadr z ad)) = ((gxo v).toList ++ r).map (gimg (gadr z ad)) := by
        rw [List.map_append, gOutV_img (ex_out hcal) (gadr z ad)]
      rw [e9, show S.2.2.1 - c0 + mcOf k' = S.2.2.1 + mcOf k' - c0 by omega, show S.2.2.2 - s0 + 6 * mcOf k' = S.2.2.2 + 6 * mcOf k' - s0 by omega]
      exact g
end GWT
