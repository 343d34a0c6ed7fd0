section NXT
variable {b : Nat → Nat} {n : Nat} {h : PH}
theorem c_rest {s1 : PH} {q : Nat} (hn : n ≤ 700) (hb : ∀ j, b j < 256) (c : CB b n s1) (hq : q ≤ n) (h5 : s1.1 1 5 = nI q) :
    ∃ t : PH, (if ((pu (pu s1 1 6 (s1.1 1 5)) 1 8 (0 : Int32)).1 1 5) < ((pu (pu s1 1 6 (s1.1 1 5)) 1 8 (0 : Int32)).1 1 4) then
    (F_X6_byteAt (pu (pu s1 1 6 (s1.1 1 5)) 1 8 (0 : Int32)) ((pu (pu s1 1 6 (s1.1 1 5)) 1 8 (0 : Int32)).1 1 5)).bind fun z4 =>
    if (F_X6_isDigit (pu (pu s1 1 6 (s1.1 1 5)) 1 8 (0 : Int32)) z4) = 0 then
     (F_X6_byteAt (pu (pu s1 1 6 (s1.1 1 5)) 1 8 (0 : Int32)) ((pu (pu s1 1 6 (s1.1 1 5)) 1 8 (0 : Int32)).1 1 5)).bind fun z5 =>
     if (F_X6_isLetter (pu (pu s1 1 6 (s1.1 1 5)) 1 8 (0 : Int32)) z5) = 0 then
      (F_X6_byteAt (pu (pu s1 1 6 (s1.1 1 5)) 1 8 (0 : Int32)) ((pu (pu s1 1 6 (s1.1 1 5)) 1 8 (0 : Int32)).1 1 5)).bind fun z6 =>
      some (.inr ((pu (pu (pu (pu s1 1 6 (s1.1 1 5)) 1 8 (0 : Int32)) 1 7 z6) 1 6 (((pu (pu (pu s1 1 6 (s1.1 1 5)) 1 8 (0 : Int32)) 1 7 z6).1 1 6) + (1 : Int32)))))
     else
      loop (fun (s7 : PH) =>
       if (s7.1 1 4) ≤ (s7.1 1 6) then
        some (.inr (.inr (s7)))
       else
        (F_X6_byteAt s7 (s7.1 1 6)).bind fun z8 =>
        if (F_X6_isLetter s7 z8) = 0 then
         some (.inr (.inr (s7)))
        else
         some (.inl ((pu s7 1 6 ((s7.1 1 6) + (1 : Int32)))))) ((pu (pu (pu s1 1 6 (s1.1 1 5)) 1 8 (0 : Int32)) 1 7 (257 : Int32)))
    else
     loop (fun (s9 : PH) =>
      if (s9.1 1 4) ≤ (s9.1 1 6) then
       some (.inr (.inr (s9)))
      else
       (F_X6_byteAt s9 (s9.1 1 6)).bind fun z10 =>
       if (F_X6_isDigit s9 z10) = 0 then
        some (.inr (.inr (s9)))
       else
        (F_X6_byteAt s9 (s9.1 1 6)).bind fun z11 =>
        some (.inl ((pu (pu s9 1 8 (if ((((10 : Int32) * (s9.1 1 8)) + z11) - (48 : Int32)) < (100000 : Int32) then ((((10 : Int32) * (s9.1 1 8)) + z11) - (48 : Int32)) else (100000 : Int32))) 1 6 (((pu s9 1 8 (if ((((10 : Int32) * (s9.1 1 8)) + z11) - (48 : Int32)) < (100000 : Int32) then ((((10 : Int32) * (s9.1 1 8)) + z11) - (48 : Int32)) else (100000 : Int32))).1 1 6) + (1 : Int32)))))) ((pu (pu (pu s1 1 6 (s1.1 1 5)) 1 8 (0 : Int32)) 1 7 (256 : Int32)))
   else
    some (.inr ((pu (pu (pu s1 1 6 (s1.1 1 5)) 1 8 (0 : Int32)) 1 7 (258 : Int32))))) = some (.inr t : PH ⊕ PH) ∧ FT s1 t ∧ t.1 1 5 = nI q ∧ t.1 1 6 = nI (te b n q) ∧ t.1 1 7 = nI (kd b n q) ∧ t.1 1 8 = nI (vlc b n q) := by
  rw [h5]
  generalize hg : pu (pu s1 1 6 (nI q)) 1 8 (0 : Int32) = g
  have fg : FT s1 g := by rw [← hg]; exact (FT.pu (by omega)).trans (FT.pu (by omega))
  have g5 : g.1 1 5 = nI q := by rw [← hg, pu_get, if_neg (by omega), pu_get, if_neg (by omega), h5]
  have g6 : g.1 1 6 = nI q := by rw [← hg, pu_get, if_neg (by omega), pu_get, if_pos ⟨rfl, rfl⟩]
  have g8 : g.1 1 8 = nI 0 := by rw [← hg, pu_get, if_pos ⟨rfl, rfl⟩]; rfl
  clear hg
  have cg := c.ft fg
  rw [g5, cg.1]
  rcases Nat.lt_or_ge q n with z | z
  · have hbq := hb q
    rw [if_pos (nI_lt z (by omega)), c_byte hn cg z, Option.bind_some, Option.bind_some, Option.bind_some, c_dig hbq, c_let hbq]
    unfold te kd vlc
    rw [if_pos z, if_pos z]
    by_cases y : isD (b q) = true
    · rw [if_pos y, if_neg (by decide), if_pos y, if_pos y, if_pos ⟨z, y⟩]
      have f1 : FT g (pu g 1 7 (256 : Int32)) := FT.pu (by omega)
      obtain ⟨t, e1, h', rfl, f2, e6, e8, eo⟩ := c_digits hn hb (cg.ft f1) hq (h := pu g 1 7 (256 : Int32)) (by rw [pu_get, if_neg (by omega), g6]) (by rw [pu_get, if_neg (by omega), g8])
      exact ⟨h', e1, (fg.trans f1).trans f2, by rw [eo 5 (by omega) (by omega), pu_get, if_neg (by omega), g5], e6, by rw [eo 7 (by omega) (by omega), pu_get, if_pos ⟨rfl, rfl⟩]; rfl, e8⟩
    · rw [if_neg y, if_pos rfl, if_neg y, if_neg y, if_neg (show ¬ (q < n ∧ isD (b q) = true) from fun w => y w.2)]
      by_cases x : isL (b q) = true
      · rw [if_pos x, if_neg (show ¬ (1 : Int32) = 0 by decide), if_pos x, if_pos x]
        have f1 : FT g (pu g 1 7 (257 : Int32)) := FT.pu (by omega)
        obtain ⟨t, e1, h', rfl, f2, e6, eo⟩ := c_letters hn hb (cg.ft f1) hq (h := pu g 1 7 (257 : Int32)) (by rw [pu_get, if_neg (by omega), g6])
        exact ⟨h', e1, (fg.trans f1).trans f2, by rw [eo 5 (by omega), pu_get, if_neg (by omega), g5], e6, by rw [eo 7 (by omega), pu_get, if_pos ⟨rfl, rfl⟩]; rfl, by rw [eo 8 (by omega), pu_get, if_neg (by omega), g8]⟩
      · rw [if_neg x, if_pos rfl, if_neg x, if_neg x]
        have e6 : (pu g 1 7 (nI (b q))).1 1 6 = nI q := by rw [pu_get, if_neg (by omega), g6]
        rw [e6, nI_1]
        refine ⟨_, rfl, (fg.trans (FT.pu (by omega))).trans (FT.pu (by omega)), ?_, ?_, ?_, ?_⟩
        · rw [pu_get, if_neg (by omega), pu_get, if_neg (by omega), g5]
        · rw [pu_get, if_pos ⟨rfl, rfl⟩]
        · rw [pu_get, if_neg (by omega), pu_get, if_pos ⟨rfl, rfl⟩]
        · rw [pu_get, if_neg (by omega), pu_get, if_neg (by omega), g8]
  · obtain rfl : q = n := by omega
    rw [if_neg (nI_nlt (Nat.le_refl _) (by omega))]
    unfold te kd vlc
    rw [if_neg (Nat.lt_irrefl _), if_neg (Nat.lt_irrefl _), if_neg (fun w => Nat.lt_irrefl _ w.1)]
    refine ⟨_, rfl, fg.trans (FT.pu (by omega)), ?_, ?_, ?_, ?_⟩
    · rw [pu_get, if_neg (by omega), g5]
    · rw [pu_get, if_neg (by omega), g6]
    · rw [pu_get, if_pos ⟨rfl, rfl⟩]
      rfl
    · rw [pu_get, if_neg (by omega), g8]
theorem c_next {p : Nat} (hn : n ≤ 700) (hb : ∀ j, b j < 256) (c : CB b n h) (hp : p ≤ n) (h6 : h.1 1 6 = nI p) : ∃ h', F_X6_next h = some h' ∧ (FT h h' ∧ TK b n h' p) := by
  unfold F_X6_next
  rw [h6]
  refine loop_ind0 (σ := PH) (fun k s => p + k ≤ n ∧ s.1 1 5 = nI (p + k) ∧ FT h s ∧ sk b n p = sk b n (p + k)) _ (n - p) ⟨hp, by rw [pu_get, if_pos ⟨rfl, rfl⟩]; rfl, FT.pu (by omega), rfl⟩ ?_
  intro k s ⟨i1, i2, i3, i4⟩
  unfold jn
  dsimp only
  have cs := c.ft i3
  obtain ⟨t, e1, f1, t5, t6, t7, t8⟩ := c_rest hn hb cs i1 i2
  have fin : sk b n p = p + k → FT h t ∧ TK b n t p := fun z => ⟨i3.trans f1, hp, by rw [t5, z], by rw [t6, z], by rw [t7, z], by rw [t8, z]⟩
  rw [show s.1 1 4 = nI n from cs.1]
  rcases Nat.lt_or_ge (p + k) n with z | z
  · by_cases y : b (p + k) = 32
    · right
      rw [i2, if_neg (nI_ge z (by omega)), c_byte hn cs z, Option.bind_some, y, if_neg (show ¬ ¬ nI 32 = (32 : Int32) from fun w => w rfl), nI_1]
      refine ⟨by omega, _, rfl, by omega, ?_, i3.trans (FT.pu (by omega)), ?_⟩
      · rw [pu_get, if_pos ⟨rfl, rfl⟩]
        rfl
      · rw [i4]
        exact rn_go z (by unfold isS; exact decide_eq_true y)
    · left
      have hbb := hb (p + k)
      have e9 : sk b n p = p + k := by rw [i4]; exact rn_st (by unfold isS; exact decide_eq_false y)
      refine ⟨t, ?_, fin e9⟩
      have : ¬ s.1 1 5 ≥ nI n := by rw [i2]; exact nI_ge z (by omega)
      rw [if_neg (show ¬ nI n ≤ s.1 1 5 from this), show F_X6_byteAt s (s.1 1 5) = some (nI (b (p + k))) by rw [i2]; exact c_byte hn cs z, Option.bind_some, if_pos (show ¬ nI (b (p + k)) = (32 : Int32) from fun w => y ((nI_eq (b := 32) (by omega) (by omega)).mp w))]
      exact e1
  · left
    have e9 : sk b n p = p + k := by rw [i4]; exact rn_end z
    refine ⟨t, ?_, fin e9⟩
    rw [if_pos (show nI n ≤ s.1 1 5 by rw [i2]; exact nI_le z (by omega))]
    exact e1
end NXT
