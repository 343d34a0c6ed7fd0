/-! A CONSTRUCTOR IS CALLED ON AN OBJECT: from what its body does first -/
section GINI
variable {Cal : Nat → List gPV → gST → gPO → gST → Prop} {X : Nat → List Value → PH → PO → PH → Prop} {mi : gMI} {Q : gPO → gST → Prop}
theorem gpw_step {e0 : PE} {pc : Nat} {st : List gPV} (hm : mi.1 pc = some e0) (h1 : gret mi.2.1 e0 st = none) (h2 : gcall e0 st = none) (h3 : gxcall e0 st = none) : ∀ (n : Nat) (lv : gLV) (S : gST), gpw Cal X mi Q n pc lv st S → ∃ (n' : Nat) (lv2 : gLV) (pc' : Nat) (lv' : gLV) (st' : List gPV) (S' : gST), (∀ i v, ggo lv2 i = some v → ggo lv i = some v) ∧ gstep e0 lv2 st S = some (pc', lv', st', S') ∧ gpw Cal X mi Q n' pc' lv' st' S' := by
  intro n
  induction n with
  | zero => intro lv S hp; exact hp.elim
  | succ n ih =>
    intro lv S hp
    obtain ⟨e1, hm1, hp⟩ := hp
    cases hm.symm.trans hm1
    rcases hp with ⟨pc', lv', st', S1, hs, hk1⟩ | ⟨o, hr1, hQ⟩ | ⟨mm, hk1⟩ | ⟨k', as, r, o1, S1, hpc, hrc, hz, hcal, hk1⟩ | ⟨k', as, r, v, hh1, hpc, hrc, hz, hcal, hk1⟩
    · exact ⟨n, lv, pc', lv', st', S1, fun i v h => h, hs, hk1⟩
    · rw [h1] at hr1; cases hr1
    · obtain ⟨n', lv2, pc', lv', st', S', q1, q2, q3⟩ := ih _ _ hk1
      exact ⟨n', lv2, pc', lv', st', S', fun i v h => gmask_sub (q1 i v h), q2, q3⟩
    · rw [h2] at hpc; cases hpc
    · rw [h3] at hpc; cases hpc
theorem gpw_call {e0 : PE} {pc : Nat} {st : List gPV} (hm : mi.1 pc = some e0) (h1 : gret mi.2.1 e0 st = none) (h2 : ∀ lv S, gstep e0 lv st S = none) (h3 : gxcall e0 st = none) : ∀ (n : Nat) (lv : gLV) (S : gST), gpw Cal X mi Q n pc lv st S → ∃ (k : Nat) (as r : List gPV) (o : gPO) (S1 : gST), gcall e0 st = some (k, as, r) ∧ Cal k as S o S1 := by
  intro n
  induction n with
  | zero => intro lv S hp; exact hp.elim
  | succ n ih =>
    intro lv S hp
    obtain ⟨e1, hm1, hp⟩ := hp
    cases hm.symm.trans hm1
    rcases hp with ⟨pc', lv', st', S1, hs, hk1⟩ | ⟨o, hr1, hQ⟩ | ⟨mm, hk1⟩ | ⟨k', as, r, o1, S1, hpc, hrc, hz, hcal, hk1⟩ | ⟨k', as, r, v, hh1, hpc, hrc, hz, hcal, hk1⟩
    · rw [h2] at hs; cases hs
    · rw [h1] at hr1; cases hr1
    · exact ih _ _ hk1
    · exact ⟨k', as, r, o1, S1, hpc, hcal⟩
    · rw [h3] at hpc; cases hpc
end GINI
theorem glA_0 {n : Nat} {v : gPV} {t : List gPV} {w : gPV} (h : ggo (glA n (v :: t)) 0 = some w) : w = v := by
  match n, v, h with
  | 0, v, h => unfold glA at h; cases h
  | 1, v, h => cases h; rfl
  | n + 2, .inl x, h => cases h; rfl
  | n + 2, .inr (.inl x), h => cases h; rfl
  | n + 2, .inr (.inr x), h => cases h; rfl
/-- aload_0 first -/
theorem gini_0 {dX d k : Nat} {v0 : gPV} {as0 : List gPV} {S S1 : gST} {o : gPO} {nx b t : Nat} {v : Int32} {w : Int64} (hm : (gmiOf k).1 0 = some (.aload_n 0, nx, 0, b, t, v, w)) (h : gEx dX (d + 1) k (v0 :: as0) S o S1) :
    ∃ (x : gRF) (n : Nat) (lv : gLV) (S' : gST), v0 = .inr (.inr x) ∧ gpw (gEx dX d) (Ex dX) (gmiOf k) (fun o1 s1 => o1 = o ∧ s1 = S1) n nx lv [.inr (.inr x)] S' := by
  obtain ⟨-, n, hp⟩ := h
  obtain ⟨n', lv2, pc', lv', st', S', q1, q2, q3⟩ := gpw_step hm rfl rfl rfl n _ _ hp
  have q2 : (match (generalizing := false) ggo lv2 0 with
    | some (.inr (.inr x)) => some (nx, lv2, [.inr (.inr x)], S)
    | _ => none) = some (pc', lv', st', S') := q2
  split at q2
  · rename_i x heq
    cases q2
    exact ⟨x, n', lv2, S, (glA_0 (q1 0 _ heq)).symm, q3⟩
  · cases q2
/-- .. and then Object's constructor -/
theorem gini_50 {dX d k : Nat} {v0 : gPV} {as0 : List gPV} {S S1 : gST} {o : gPO} {nx b t nx1 a1 b1 x1 : Nat} {v v1 : Int32} {w w1 : Int64} (hm : (gmiOf k).1 0 = some (.aload_n 0, nx, 0, b, t, v, w)) (hm1 : (gmiOf k).1 nx = some (.invokespecial x1, nx1, a1, b1, 50, v1, w1)) (h : gEx dX (d + 1) k (v0 :: as0) S o S1) : ∃ r, v0 = .inr (.inr (some r)) := by
  obtain ⟨x, n, lv, S', rfl, q3⟩ := gini_0 hm h
  obtain ⟨n', lv2, pc', lv', st', S2, q1, q2, q4⟩ := gpw_step hm1 rfl rfl rfl n _ _ q3
  cases x with
  | none => exact nomatch (show (none : gR) = some _ from q2)
  | some r => exact ⟨r, rfl⟩
theorem gini_set : ∀ k, k < 74 → (gyO k).name = "<init>" → (k = 3 ∨ k = 4 ∨ k = 10 ∨ k = 18 ∨ k = 30 ∨ k = 57 ∨ k = 61) := by decide +kernel
theorem gEx_succ {dX d k : Nat} {as : List gPV} {S S1 : gST} {o : gPO} (h : gEx dX d k as S o S1) : ∃ d', d = d' + 1 := by
  cases d with
  | zero => exact h.elim
  | succ d => exact ⟨d, rfl⟩
theorem ginit_ref {dX d k : Nat} {v0 : gPV} {as0 : List gPV} {S S1 : gST} {o : gPO} (hk : k < 74) (hn : (gyO k).name = "<init>") (h : gEx dX d k (v0 :: as0) S o S1) : ∃ r, v0 = .inr (.inr (some r)) := by
  obtain ⟨d, rfl⟩ := gEx_succ h
  rcases gini_set k hk hn with rfl | rfl | rfl | rfl | rfl | rfl | rfl
  · obtain ⟨x, n, lv, S', rfl, q3⟩ := gini_0 (k := 3) rfl h
    obtain ⟨n2, lv2, pc2, lv3, st2, S2, -, q4, q5⟩ := gpw_step (pc := 1) (e0 := (.aload_n 1, 2, 1, 0, 0, 0, 0)) rfl rfl rfl rfl n _ _ q3
    have q4 : (match (generalizing := false) ggo lv2 1 with
      | some (.inr (.inr y)) => some (2, lv2, [.inr (.inr y), .inr (.inr x)], S')
      | _ => none) = some (pc2, lv3, st2, S2) := q4
    split at q4
    · rename_i y heq
      cases q4
      obtain ⟨n4, lv4, pc4, lv5, st4, S4, -, q6, q7⟩ := gpw_step (pc := 2) (e0 := (.aconst_null, 3, 0, 0, 0, 0, 0)) rfl rfl rfl rfl n2 _ _ q5
      cases q6
      obtain ⟨k6, as6, r6, o6, S6, q8, q9⟩ := gpw_call (pc := 3) (e0 := (.invokespecial 489, 6, 4, 3, 98, 0, 0)) rfl rfl (fun lv S => rfl) rfl n4 _ _ q7
      cases q8
      obtain ⟨d, rfl⟩ := gEx_succ q9
      exact gini_50 (k := 4) rfl rfl q9
    · cases q4
  · exact gini_50 (k := 4) rfl rfl h
  · obtain ⟨x, n, lv, S', rfl, q3⟩ := gini_0 (k := 10) rfl h
    obtain ⟨n4, lv4, pc4, lv5, st4, S4, -, q6, q7⟩ := gpw_step (pc := 1) (e0 := (.bipush 16, 3, 0, 0, 0, 16, 0)) rfl rfl rfl rfl n _ _ q3
    cases q6
    obtain ⟨k6, as6, r6, o6, S6, q8, q9⟩ := gpw_call (pc := 3) (e0 := (.invokespecial 1, 6, 18, 2, 98, 0, 0)) rfl rfl (fun lv S => rfl) rfl n4 _ _ q7
    cases q8
    obtain ⟨d, rfl⟩ := gEx_succ q9
    exact gini_50 (k := 18) rfl rfl q9
  · exact gini_50 (k := 18) rfl rfl h
  · exact gini_50 (k := 30) rfl rfl h
  · exact gini_50 (k := 57) rfl rfl h
  · exact gini_50 (k := 61) rfl rfl h
