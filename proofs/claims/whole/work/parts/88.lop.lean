section LOP
variable {b : Nat → Nat} {n : Nat} {g r : PH} {N : NT}
theorem j_stmt {hs : Bool} {p : Nat} (hn : n ≤ 700) (hb : ∀ j, b j < 256) (J : JT b n g r p) (ng : NG g r N) (hg : HG g r hs p) (lt : sk b n p < n) :
    ∃ g' r' o', cS g = some g' ∧ F_X8_statement r = some r' ∧ FS g g' ∧ FZ r r' ∧ Jo b n g' r' o' ∧ ∀ p', o' = some p' → p < p' ∧ ∃ N' hs', NG g' r' N' ∧ HG g' r' hs' p' := by
  obtain ⟨q, q1, q2, q3⟩ := J.2.2.2.1
  obtain ⟨r0, e0, f0⟩ := r_next hn hb J.2.1 q1 q2
  rw [q3] at e0 f0
  have J0 : JT b n g r0 p := ⟨J.1, J.2.1.fx f0.FX, J.2.2.1, ⟨_, f0.2.1, sk_le J.2.2.1.1, sk_id _⟩, J.2.2.2.2.1, by rw [f0.2.2 5 (by omega)]; exact J.2.2.2.2.2.1, J.2.2.2.2.2.2.1, by rw [f0.2.2 6 (by omega)]; exact J.2.2.2.2.2.2.2⟩
  have ng0 : NG g r0 N := ng.fe (FE.refl g) f0.FX
  have hg0 : HG g r0 hs p := hg.net (Nat.le_refl _) (FN.refl g) f0.FX.FM
  have z0 : FZ r r0 := f0.FX.FM.FZ
  -- what follows a statement's middle
  have fin : ∀ (gm rm : PH) (om : Option Nat), FS g gm → FZ r rm → Jo b n gm rm om → (∀ p', om = some p' → p < p' ∧ ∃ N' hs', NG gm rm N' ∧ HG gm rm hs' p') → ∃ g' r' o', F_X6_takeSign gm (59 : Int32) = some g' ∧ ((F_X8_expect rm (59 : Int32)).bind fun h5 => some (h5)) = some r' ∧ FS g g' ∧ FZ r r' ∧ Jo b n g' r' o' ∧ ∀ p', o' = some p' → p < p' ∧ ∃ N' hs', NG g' r' N' ∧ HG g' r' hs' p' := by
    intro gm rm om a1 a2 a3 a4
    obtain ⟨g', r', o', b1, b2, b3, b4, b5, b6⟩ := stm_end hn hb a3
    refine ⟨g', r', o', b1, b2, a1.trans b3.FN.FS, a2.trans b4.FM.FZ, b5, fun p' z => ?_⟩
    obtain ⟨p1, z1, z2⟩ := b6 p' z
    obtain ⟨z3, N', hs', z4, z5⟩ := a4 p1 z1
    exact ⟨by omega, N', hs', z4.fe b3 b4, z5.net (by omega) b3.FN b4.FM⟩
  unfold cS F_X8_statement jn
  rw [e0, Option.bind_some]
  dsimp only
  rw [f0.2.1]
  obtain ⟨r1, W1⟩ := j_word (i := 1) hn hb (by omega) J0
  rcases W1 with ⟨w1, w2, w3, w4, w5⟩ | ⟨w1, w2, w3, w4, J1⟩
  · obtain ⟨gm, rm, om, d1, d2, d3, d4, d5, d6⟩ := j_edge hn hb J0 ng0 w1 lt
    obtain ⟨g', r', o', b1, b2, b3⟩ := fin gm rm om d3.FS (z0.trans (FM.FZ (FM.trans (FM.refl r0) (FM.trans (w1.FX.FM) (by
      have : FM r1 rm := ⟨fun a ha => ⟨by rw [(d4.1 a ha).1, (w1.1 a (by omega)).1], by rw [(d4.1 a ha).2, (w1.1 a (by omega)).2]⟩, fun j hj => by rw [d4.2.1 j hj, w1.2.2 j (by omega)], fun j hj => by rw [d4.2.2 j hj, (w1.1 125 (by omega)).1]⟩
      exact this))))) d5 (fun p' z => by
        obtain ⟨z1, N', z2⟩ := d6 p' z
        exact ⟨z1, N', hs, z2, hg0.net (by omega) d3 d4⟩)
    rw [show F_X6_isWord g 1001 = some 1 from w3, Option.bind_some, if_neg (show ¬ (1 : Int32) = 0 by decide), d1, Option.bind_some, show F_X8_takeWord r0 1001 = some (1, r1) from w4, Option.bind_some]
    dsimp only
    rw [if_neg (show ¬ (1 : Int32) = 0 by decide), d2, Option.bind_some, b1, b2]
    exact ⟨g', r', o', rfl, rfl, b3⟩
  · rw [show F_X6_isWord g 1001 = some 0 from w3, Option.bind_some, if_pos rfl, show F_X8_takeWord r0 1001 = some (0, r1) from w4, Option.bind_some]
    dsimp only
    rw [if_pos rfl]
    have ng1 : NG g r1 N := ng0.fe (FE.refl g) w1.FX
    have hg1 : HG g r1 hs p := hg0.net (Nat.le_refl _) (FN.refl g) w1.FX.FM
    have z1 : FZ r r1 := z0.trans w1.FX.FM.FZ
    obtain ⟨r2, W2⟩ := j_word (i := 2) hn hb (by omega) J1
    rcases W2 with ⟨v1, v2, v3, v4, v5⟩ | ⟨v1, v2, v3, v4, J2⟩
    · obtain ⟨gm, rm, om, d1, d2, d3, d4, d5, d6⟩ := j_ban hn hb J1 ng1 v1 lt
      obtain ⟨g', r', o', b1, b2, b3⟩ := fin gm rm om d3.FS (z1.trans d4.FZ) d5 (fun p' z => by
          obtain ⟨z1, N', z2⟩ := d6 p' z
          exact ⟨z1, N', hs, z2, hg1.net (by omega) d3 d4⟩)
      rw [show F_X6_isWord g 1002 = some 1 from v3, Option.bind_some, if_neg (show ¬ (1 : Int32) = 0 by decide), d1, Option.bind_some, show F_X8_takeWord r1 1002 = some (1, r2) from v4, Option.bind_some]
      dsimp only
      rw [if_neg (show ¬ (1 : Int32) = 0 by decide), d2, Option.bind_some, b1, b2]
      exact ⟨g', r', o', rfl, rfl, b3⟩
    · rw [show F_X6_isWord g 1002 = some 0 from v3, Option.bind_some, if_pos rfl, show F_X8_takeWord r1 1002 = some (0, r2) from v4, Option.bind_some]
      dsimp only
      rw [if_pos rfl]
      have ng2 : NG g r2 N := ng1.fe (FE.refl g) v1.FX
      have hg2 : HG g r2 hs p := hg1.net (Nat.le_refl _) (FN.refl g) v1.FX.FM
      have z2 : FZ r r2 := z1.trans v1.FX.FM.FZ
      obtain ⟨r3, W3⟩ := j_word (i := 3) hn hb (by omega) J2
      rcases W3 with ⟨u1, u2, u3, u4, u5⟩ | ⟨u1, u2, u3, u4, J3⟩
      · obtain ⟨gm, rm, om, d1, d2, d3, d4, d5, d6⟩ := j_depot hn hb J2 ng2 u1 lt
        obtain ⟨g', r', o', b1, b2, b3⟩ := fin gm rm om d3.FS (z2.trans d4.FZ) d5 (fun p' z => by
            obtain ⟨z1, N', z2⟩ := d6 p' z
            exact ⟨z1, N', hs, z2, hg2.net (by omega) d3 d4⟩)
        rw [show F_X6_isWord g 1003 = some 1 from u3, Option.bind_some, if_neg (show ¬ (1 : Int32) = 0 by decide), d1, Option.bind_some, show F_X8_takeWord r2 1003 = some (1, r3) from u4, Option.bind_some]
        dsimp only
        rw [if_neg (show ¬ (1 : Int32) = 0 by decide), d2, Option.bind_some, b1, b2]
        exact ⟨g', r', o', rfl, rfl, b3⟩
      · rw [show F_X6_isWord g 1003 = some 0 from u3, Option.bind_some, if_pos rfl, show F_X8_takeWord r2 1003 = some (0, r3) from u4, Option.bind_some]
        dsimp only
        rw [if_pos rfl]
        have ng3 : NG g r3 N := ng2.fe (FE.refl g) u1.FX
        have hg3 : HG g r3 hs p := hg2.net (Nat.le_refl _) (FN.refl g) u1.FX.FM
        have z3 : FZ r r3 := z2.trans u1.FX.FM.FZ
        obtain ⟨r4, W4⟩ := j_word (i := 4) hn hb (by omega) J3
        rcases W4 with ⟨x1, x2, x3, x4, x5⟩ | ⟨x1, x2, x3, x4, J4⟩
        · obtain ⟨gm, rm, om, d1, d2, d3, d4, d5, d6⟩ := j_serv hn hb J3 ng3 hg3 x1 lt
          obtain ⟨g', r', o', b1, b2, b3⟩ := fin gm rm om d3 (z3.trans d4) d5 (fun p' z => by
              obtain ⟨z1, hs', z2, z3⟩ := d6 p' z
              exact ⟨z1, N, hs', z2, z3⟩)
          rw [show F_X6_isWord g 1004 = some 1 from x3, Option.bind_some, if_neg (show ¬ (1 : Int32) = 0 by decide), show F_X8_takeWord r3 1004 = some (1, r4) from x4, Option.bind_some]
          dsimp only
          rw [if_neg (show ¬ (1 : Int32) = 0 by decide), ← Option.bind_assoc, ← Option.bind_assoc, d2, Option.bind_some]
          refine ⟨g', r', o', ?_, b2, b3⟩
          by_cases y : ¬ g.1 1 9 = 0
          · rw [if_pos y] at d1 ⊢
            cases d1
            exact b1
          · rw [if_neg y] at d1 ⊢
            rw [d1, Option.bind_some]
            exact b1
        · have z4 : FZ r r4 := z3.trans x1.FX.FM.FZ
          have Jf := j_fail (c := (-2 : Int32)) (by decide) J4 J4.2.1 J4.2.2.2.2.2.1
          obtain ⟨g', r', o', b1, b2, b3⟩ := fin _ _ none (fail_FE (g := g) (c := (-2 : Int32))).FN.FS (z4.trans (rep_FX (r := r4) (c := (-2 : Int32)) (a := nI (sk b n p))).FM.FZ) Jf (fun p' z => by cases z)
          rw [show F_X6_isWord g 1004 = some 0 from x3, Option.bind_some, if_pos rfl, show F_X8_takeWord r3 1004 = some (0, r4) from x4, Option.bind_some]
          dsimp only
          rw [if_pos rfl, b1, b2]
          exact ⟨g', r', o', rfl, rfl, b3⟩
/-- two loops in step, up to the states in which they end -/
theorem loop_pair2 {σ1 τ1 σ2 τ2 : Type} {B1 : σ1 → Option (σ1 ⊕ τ1)} {B2 : σ2 → Option (σ2 ⊕ τ2)} (R : Nat → σ1 → σ2 → Prop) (F : σ1 → σ2 → Prop)
    (step : ∀ k s1 s2, R k s1 s2 → F s1 s2 ∨ ∃ k' s1' s2', k' < k ∧ B1 s1 = some (.inl s1') ∧ B2 s2 = some (.inl s2') ∧ R k' s1' s2') :
    ∀ (k : Nat) (s1 : σ1) (s2 : σ2), R k s1 s2 → ∃ t1 t2, loop B1 s1 = loop B1 t1 ∧ loop B2 s2 = loop B2 t2 ∧ F t1 t2 := by
  intro k
  induction k using Nat.strongRecOn with
  | ind k ih =>
    intro s1 s2 hR
    rcases step k s1 s2 hR with h3 | ⟨k', s1', s2', hk, h1, h2, h3⟩
    · exact ⟨s1, s2, rfl, rfl, h3⟩
    · obtain ⟨t1, t2, h4, h5, h6⟩ := ih k' hk s1' s2' h3
      exact ⟨t1, t2, by rw [loop_eq, h1]; exact h4, by rw [loop_eq, h2]; exact h5, h6⟩
end LOP
