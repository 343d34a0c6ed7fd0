/-! A CHAIN OF PIECES AND OPERATIONS: terms of factors, sums of terms -/
section CHN
variable {b : Nat → Nat} {n : Nat} {g r : PH}
def opC (o : Nat) : Prop := 2 ≤ o ∧ o ≤ 5 ∧ sgn o < 256 ∧ isD (sgn o) = false ∧ isL (sgn o) = false
theorem opC_ok : ∀ o, 2 ≤ o → o ≤ 5 → opC o := fun o h1 h2 => by
  have : o = 2 ∨ o = 3 ∨ o = 4 ∨ o = 5 := by omega
  rcases this with rfl | rfl | rfl | rfl <;> exact ⟨by omega, by omega, by decide, rfl, rfl⟩
theorem chain_go {o d K p e k : Nat} {l : List Stq} {Sc : PH → Int32 → Option PH} {Sr : PH → Option PH} (hn : n ≤ 700) (hb : ∀ j, b j < 256) (HP : PF b n d (K + 1) Sc Sr) (HB : RQ Sr) (ho : opC o) (hk : k ≤ K) (hK : K ≤ 10) (J : JT b n g r (p + e)) (F : FK g r l p (k + 1)) (h14 : r.1 122 14 = nI d) (h4 : r.1 122 4 = nI (sk b n (p + e))) (y : sk b n (p + e) < n ∧ b (sk b n (p + e)) = sgn o) :
    ∃ g4 r4, ((F_X6_next g).bind fun h3 => (Sc h3 (nI d)).bind fun h4 => some (F_X0_addOperator h4 (nI (sgn o)))) = some g4 ∧ ((Sr (pu r 122 4 (nI (sk b n (p + e) + 1)))).bind fun h7 => F_X8_emit h7 (nI o)) = some r4 ∧ GC g g4 ∧ GR r r4 ∧ ((∃ l' p', JT b n g4 r4 (p' + e) ∧ FK g4 r4 l' p' (k + 1) ∧ p < p' ∧ r4.1 122 14 = nI d) ∨ JB b n g4 r4) := by
  obtain ⟨o1, o2, o3, o4, o5⟩ := ho
  have ete : te b n (sk b n (p + e)) = sk b n (p + e) + 1 := by
    unfold te
    rw [if_pos y.1, y.2, if_neg (by rw [o4]; decide), if_neg (by rw [o5]; decide)]
  obtain ⟨g2, a1, a2, a3⟩ := j_go (r' := pu r 122 4 (nI (sk b n (p + e) + 1))) hn hb J (FX.pu (by omega)) (by rw [pu_get, if_pos ⟨rfl, rfl⟩]) ete.symm (by rw [pu_get, if_neg (by omega)]; exact J.2.2.2.2.2.1) (by rw [pu_get, if_neg (by omega)])
  have hpq := sk_ge (b := b) (n := n) (p + e)
  obtain ⟨t, ht⟩ : ∃ t, te b n (sk b n (p + e)) = p + t + (e + 1) := ⟨te b n (sk b n (p + e)) - (p + (e + 1)), by omega⟩
  rw [ht] at a3
  have F2 : FK g2 (pu r 122 4 (nI (sk b n (p + e) + 1))) l (p + t) (k + 1) := F.mono (by omega) (a2.1 10 (by omega)).1 (a2.1 11 (by omega)).1 (pu_o _ _ _ _ 125 (by omega)).1
  obtain ⟨g3, r3, b1, b2, b3, b4, b5⟩ := HP.1 _ _ l (p + t) (e + 1) (k + 1) (by omega) a3 F2 (by rw [pu_get, if_neg (by omega)]; exact h14)
  rw [a1, Option.bind_some, b1, Option.bind_some, b2, Option.bind_some]
  have gr : GR r r3 := GR.p4.trans b4
  rcases b5 with ⟨l', p', c1, c2, c3, c4⟩ | c1
  · have hpn := c1.2.2.1.1
    obtain ⟨f1, f2, f3, f4, f5, f6, f7, f8⟩ := c2
    obtain ⟨g4, r4, d1, d2, d3, d4, d5, d6⟩ := f_oper (p' := p' + 1) ⟨f1, f2, f3, f4, f5, f6, f7, f8⟩ c1.2.2.2.2.2.1 ⟨o1, o2⟩ (by omega) (by omega) (by omega) (by omega)
    refine ⟨g4, r4, congrArg some d1, d2, (a2.GC.trans b3).trans (GC.of11 d3), gr.trans (GR.of5 d4 d5), Or.inl ⟨_, p' + 1, ?_, d6, by omega, by rw [(d4 122 (by omega)).1]; exact c4⟩⟩
    rw [show p' + 1 + e = p' + (e + 1) by omega]
    exact c1.fr (d3 1 (by omega)).1 (d3 2 (by omega)).1 (d4 122 (by omega)).1 (d4 123 (by omega)).1
  · obtain ⟨g4, d1, d2⟩ := c_addb (g := g3) (v := -(nI (sgn o)))
    rw [r_emitb (jb_r5 c1)]
    exact ⟨g4, r3, congrArg some d1, rfl, (a2.GC.trans b3).trans (GC.of11 d2), gr, Or.inr (c1.fr (d2 1 (by omega)).1 (d2 2 (by omega)).1 rfl rfl)⟩
theorem chain_ok {oa ob d K : Nat} {Sc : PH → Int32 → Option PH} {Sr : PH → Option PH} (hn : n ≤ 700) (hb : ∀ j, b j < 256) (HP : PF b n d (K + 1) Sc Sr) (HB : RQ Sr) (ha : opC oa) (hob : opC ob) (hne : sgn oa ≠ sgn ob) (hK : K ≤ 10) :
    PF b n d K (fun h p0 => (Sc h p0).bind fun h1 =>
 loop (fun (s2 : Int32 × PH) =>
  if (s2.2.1 1 4) ≤ s2.1 then
   some (.inr (s2.2))
  else
   if ¬ (s2.2.1 1 10) = 0 then
    some (.inr (s2.2))
   else
    if (s2.2.1 1 7) = nI (sgn oa) then
     (F_X6_next s2.2).bind fun h3 =>
     (Sc h3 p0).bind fun h4 =>
     some (.inl ((s2.1 + (1 : Int32)), (F_X0_addOperator h4 (s2.2.1 1 7))))
    else
     if ¬ (s2.2.1 1 7) = nI (sgn ob) then
      some (.inr (s2.2))
     else
      (F_X6_next s2.2).bind fun h5 =>
      (Sc h5 p0).bind fun h6 =>
      some (.inl ((s2.1 + (1 : Int32)), (F_X0_addOperator h6 (s2.2.1 1 7))))) ((0 : Int32), h1))
    (fun h => (Sr h).bind fun h1 =>
 loop (fun (s2 : PH) =>
  if (F_X8_isGood s2) = 0 then
   some (.inr (s2))
  else
   (F_X8_next s2).bind fun z3 =>
   if z3.1 = nI (sgn oa) then
    (F_X8_next z3.2).bind fun z4 =>
    jn (fun (v6 : Int32) =>
     (Sr (pu z4.2 122 4 ((z4.2.1 122 4) + (1 : Int32)))).bind fun h7 =>
     if v6 = 0 then
      (F_X8_emit h7 (nI ob)).bind fun h8 =>
      some (.inl (h8))
     else
      (F_X8_emit h7 (nI oa)).bind fun h9 =>
      some (.inl (h9))) (fun k5 =>
     if ¬ z4.1 = nI (sgn oa) then
      k5 ((0 : Int32))
     else
      k5 ((1 : Int32)))
   else
    (F_X8_next z3.2).bind fun z10 =>
    if ¬ z10.1 = nI (sgn ob) then
     some (.inr (z10.2))
    else
     (F_X8_next z10.2).bind fun z11 =>
     jn (fun (v13 : Int32) =>
      (Sr (pu z11.2 122 4 ((z11.2.1 122 4) + (1 : Int32)))).bind fun h14 =>
      if v13 = 0 then
       (F_X8_emit h14 (nI ob)).bind fun h15 =>
       some (.inl (h15))
      else
       (F_X8_emit h14 (nI oa)).bind fun h16 =>
       some (.inl (h16))) (fun k12 =>
      if ¬ z11.1 = nI (sgn oa) then
       k12 ((0 : Int32))
      else
       k12 ((1 : Int32)))) (h1)) := by
  refine ⟨fun g r l p e k hk J F h14 => ?_, fun g r J => ?_⟩
  · dsimp only
    obtain ⟨g1, r1, a1, a2, a3, a4, a5⟩ := HP.1 g r l p e k (by omega) J F h14
    rw [a1, Option.bind_some, a2, Option.bind_some]
    obtain ⟨m0, hm0⟩ : ∃ m0 : Nat, (∃ i l' p', (((0 : Int32), g1) : Int32 × PH).1 = nI i ∧ i ≤ p' ∧ GC g g1 ∧ GR r r1 ∧ JT b n g1 r1 (p' + e) ∧ FK g1 r1 l' p' (k + 1) ∧ p < p' ∧ r1.1 122 14 = nI d ∧ m0 = n + 1 - p') ∨ (GC g g1 ∧ GR r r1 ∧ JB b n g1 r1 ∧ m0 = 0) := by
      rcases a5 with ⟨l', p', c1, c2, c3, c4⟩ | c1
      · exact ⟨n + 1 - p', Or.inl ⟨0, l', p', rfl, Nat.zero_le _, a3, a4, c1, c2, c3, c4, rfl⟩⟩
      · exact ⟨0, Or.inr ⟨a3, a4, c1, rfl⟩⟩
    refine (fun ⟨t1, t2, k1, k2, k3, k4, k5⟩ => ⟨t1, t2, k1, k2, k3, k4, k5⟩) (loop_pair (fun m s1 s2 => (∃ i l' p', s1.1 = nI i ∧ i ≤ p' ∧ GC g s1.2 ∧ GR r s2 ∧ JT b n s1.2 s2 (p' + e) ∧ FK s1.2 s2 l' p' (k + 1) ∧ p < p' ∧ s2.1 122 14 = nI d ∧ m = n + 1 - p') ∨ (GC g s1.2 ∧ GR r s2 ∧ JB b n s1.2 s2 ∧ m = 0))
      (fun t1 t2 => GC g t1 ∧ GR r t2 ∧ ((∃ l' p', JT b n t1 t2 (p' + e) ∧ FK t1 t2 l' p' (k + 1) ∧ p < p' ∧ t2.1 122 14 = nI d) ∨ JB b n t1 t2)) ?_ m0 ((0 : Int32), g1) r1 hm0)
    intro m s1 s2 hR
    · rcases hR with ⟨i, l', p', i1, i2, i3, i4, i5, i6, i7, i8', i9⟩ | ⟨i3, i4, i5, i6⟩
      · have hpn := i5.2.2.1.1
        have hk2 := kd_lt (n := n) (q := sk b n (p' + e)) hb
        have hpq := sk_ge (b := b) (n := n) (p' + e)
        have J0 := i5
        obtain ⟨j1, j2, j3, ⟨q, q1, q2, q3⟩, j5, j6, j7, j8⟩ := i5
        have tk := j3
        obtain ⟨t1, t2, t3, t4, t5⟩ := j3
        obtain ⟨ra, e1, f1⟩ := r_next hn hb j2 q1 q2
        rw [q3] at e1 f1
        have ja : JT b n s1.2 ra (p' + e) := ⟨j1, j2.fx f1.FX, tk, ⟨_, f1.2.1, sk_le t1, sk_id _⟩, j5, by rw [f1.2.2 5 (by omega)]; exact j6, j7, by rw [f1.2.2 6 (by omega)]; exact j8⟩
        obtain ⟨rb, e2, f2⟩ := r_next hn hb ja.2.1 f1.2.1 (sk_le (b := b) t1)
        rw [sk_id] at e2 f2
        have jb : JT b n s1.2 rb (p' + e) := ⟨j1, ja.2.1.fx f2.FX, tk, ⟨_, f2.2.1, sk_le t1, sk_id _⟩, j5, by rw [f2.2.2 5 (by omega)]; exact ja.2.2.2.2.2.1, j7, by rw [f2.2.2 6 (by omega)]; exact ja.2.2.2.2.2.2.2⟩
        have Fb : FK s1.2 rb l' p' (k + 1) := i6.mono (Nat.le_refl _) rfl rfl (by rw [(f2.1 125 (by omega)).1, (f1.1 125 (by omega)).1])
        have b14 : rb.1 122 14 = nI d := by rw [f2.2.2 14 (by omega), f1.2.2 14 (by omega)]; exact i8'
        have grb : GR r rb := i4.trans (f1.FX.GR.trans f2.FX.GR)
        have fin : (∃ g', s1.2 = g') → GC g s1.2 ∧ GR r rb ∧ ((∃ l' p', JT b n s1.2 rb (p' + e) ∧ FK s1.2 rb l' p' (k + 1) ∧ p < p' ∧ rb.1 122 14 = nI d) ∨ JB b n s1.2 rb) := fun _ => ⟨i3, grb, Or.inl ⟨l', p', jb, Fb, i7, b14⟩⟩
        rw [good_0 j6, if_neg (show ¬ (1 : Int32) = 0 by decide), e1, Option.bind_some, i1, j1.1, t4]
        dsimp only
        obtain ⟨oa1, oa2, oa3, oa4, oa5⟩ := ha
        obtain ⟨ob1, ob2, ob3, ob4, ob5⟩ := hob
        have ka := kd_c (b := b) (n := n) (q := sk b n (p' + e)) oa3 oa4 oa5
        have kb := kd_c (b := b) (n := n) (q := sk b n (p' + e)) ob3 ob4 ob5
        by_cases ya : sk b n (p' + e) < n ∧ b (sk b n (p' + e)) = sgn oa
        · right
          obtain ⟨g4, r4, c1, c2, c3, c4, c5⟩ := chain_go hn hb HP HB ⟨oa1, oa2, oa3, oa4, oa5⟩ hk hK jb Fb b14 f2.2.1 ya
          have c1b : ∀ w : Int32, ((F_X6_next s1.2).bind fun h3 => (Sc h3 (nI d)).bind fun h4 => some (.inl (w, F_X0_addOperator h4 (nI (sgn oa))) : (Int32 × PH) ⊕ PH)) = some (.inl (w, g4)) := fun w => by
            cases e9 : F_X6_next s1.2 with
            | none => rw [e9] at c1; cases c1
            | some h3 =>
              rw [e9, Option.bind_some] at c1
              rw [Option.bind_some]
              cases e8 : Sc h3 (nI d) with
              | none => rw [e8] at c1; cases c1
              | some h4 =>
                rw [e8, Option.bind_some] at c1
                cases c1
                rw [Option.bind_some]
          have c2b : ((Sr (pu rb 122 4 (nI (sk b n (p' + e) + 1)))).bind fun h7 => (F_X8_emit h7 (nI oa)).bind fun h9 => some (.inl h9 : PH ⊕ PH)) = some (.inl r4) := by
            rw [← Option.bind_assoc, c2, Option.bind_some]
          have hz : bz b n (sk b n (p' + e)) = nI (sgn oa) := (bz_eq hb oa3).mpr ya
          rw [if_neg (show ¬ nI n ≤ nI i from nI_ge (by omega) (by omega)), if_neg (fun z => z j5), ka.mpr ya, if_pos rfl, c1b, if_pos hz, e2, Option.bind_some]
          unfold jn
          dsimp only
          rw [if_neg (fun z => z hz)]
          simp only [if_neg (show ¬ (1 : Int32) = 0 by decide)]
          rw [f2.2.1, nI_1 (sk b n (p' + e)), c2b]
          rcases c5 with ⟨l2, p2, d1, d2, d3, d4⟩ | d1
          · have := d1.2.2.1.1
            exact ⟨n + 1 - p2, _, _, by omega, rfl, rfl, Or.inl ⟨i + 1, l2, p2, nI_1 i, by omega, i3.trans c3, grb.trans c4, d1, d2, by omega, d4, rfl⟩⟩
          · exact ⟨0, _, _, by omega, rfl, rfl, Or.inr ⟨i3.trans c3, grb.trans c4, d1, rfl⟩⟩
        · have na : ¬ bz b n (sk b n (p' + e)) = nI (sgn oa) := fun w => ya ((bz_eq hb oa3).mp w)
          have nka : ¬ nI (kd b n (sk b n (p' + e))) = nI (sgn oa) := fun w => ya (ka.mp ((nI_eq (by omega) (by omega)).mp w))
          rw [if_neg na, if_neg nka, e2, Option.bind_some]
          dsimp only
          by_cases yb : sk b n (p' + e) < n ∧ b (sk b n (p' + e)) = sgn ob
          · right
            obtain ⟨rc, e3, f3⟩ := r_next hn hb jb.2.1 f2.2.1 (sk_le (b := b) t1)
            rw [sk_id] at e3 f3
            have jc : JT b n s1.2 rc (p' + e) := ⟨j1, jb.2.1.fx f3.FX, tk, ⟨_, f3.2.1, sk_le t1, sk_id _⟩, j5, by rw [f3.2.2 5 (by omega)]; exact jb.2.2.2.2.2.1, j7, by rw [f3.2.2 6 (by omega)]; exact jb.2.2.2.2.2.2.2⟩
            have Fc : FK s1.2 rc l' p' (k + 1) := Fb.mono (Nat.le_refl _) rfl rfl (f3.1 125 (by omega)).1
            have c14 : rc.1 122 14 = nI d := by rw [f3.2.2 14 (by omega)]; exact b14
            have grc : GR r rc := grb.trans f3.FX.GR
            obtain ⟨g4, r4, c1, c2, c3, c4, c5⟩ := chain_go hn hb HP HB ⟨ob1, ob2, ob3, ob4, ob5⟩ hk hK jc Fc c14 f3.2.1 yb
            have c1b : ∀ w : Int32, ((F_X6_next s1.2).bind fun h3 => (Sc h3 (nI d)).bind fun h4 => some (.inl (w, F_X0_addOperator h4 (nI (sgn ob))) : (Int32 × PH) ⊕ PH)) = some (.inl (w, g4)) := fun w => by
              cases e9 : F_X6_next s1.2 with
              | none => rw [e9] at c1; cases c1
              | some h3 =>
                rw [e9, Option.bind_some] at c1
                rw [Option.bind_some]
                cases e8 : Sc h3 (nI d) with
                | none => rw [e8] at c1; cases c1
                | some h4 =>
                  rw [e8, Option.bind_some] at c1
                  cases c1
                  rw [Option.bind_some]
            have c2b : ((Sr (pu rc 122 4 (nI (sk b n (p' + e) + 1)))).bind fun h7 => (F_X8_emit h7 (nI ob)).bind fun h9 => some (.inl h9 : PH ⊕ PH)) = some (.inl r4) := by
              rw [← Option.bind_assoc, c2, Option.bind_some]
            have hz : bz b n (sk b n (p' + e)) = nI (sgn ob) := (bz_eq hb ob3).mpr yb
            rw [if_neg (show ¬ nI n ≤ nI i from nI_ge (by omega) (by omega)), if_neg (fun z => z j5), kb.mpr yb, if_neg (fun z => z rfl), c1b, if_neg (fun z => z hz), e3, Option.bind_some]
            unfold jn
            dsimp only
            rw [if_pos na]
            simp only [if_true]
            rw [f3.2.1, nI_1 (sk b n (p' + e)), c2b]
            rcases c5 with ⟨l2, p2, d1, d2, d3, d4⟩ | d1
            · have := d1.2.2.1.1
              exact ⟨n + 1 - p2, _, _, by omega, rfl, rfl, Or.inl ⟨i + 1, l2, p2, nI_1 i, by omega, i3.trans c3, grc.trans c4, d1, d2, by omega, d4, rfl⟩⟩
            · exact ⟨0, _, _, by omega, rfl, rfl, Or.inr ⟨i3.trans c3, grc.trans c4, d1, rfl⟩⟩
          · left
            have nb : ¬ bz b n (sk b n (p' + e)) = nI (sgn ob) := fun w => yb ((bz_eq hb ob3).mp w)
            have nkb : ¬ nI (kd b n (sk b n (p' + e))) = nI (sgn ob) := fun w => yb (kb.mp ((nI_eq (by omega) (by omega)).mp w))
            rw [if_pos nb, if_pos nkb]
            refine ⟨s1.2, rb, ?_, rfl, fin ⟨_, rfl⟩⟩
            split <;> rfl
      · left
        rw [good_1 (jb_r5 i5), if_pos rfl, if_pos i5.2.2.2.1]
        refine ⟨s1.2, s2, ?_, rfl, i3, i4, Or.inr i5⟩
        split <;> rfl
  · dsimp only
    obtain ⟨g1, a1, a2, a3⟩ := HP.2 g r J
    rw [a1, Option.bind_some]
    refine ⟨g1, loop_to (fun _ => ((0 : Int32), g1)) 0 rfl (fun k hk => absurd hk (Nat.not_lt_zero _)) ?_, a2, a3⟩
    dsimp only
    rw [if_pos a3.2.2.2.1]
    split <;> rfl
end CHN
