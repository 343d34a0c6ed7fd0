/-! THE WHOLE TEXT READ -/
theorem readSetup_is (h : PH) (p0 : Int32) : F_X6_readSetup h p0 = (F_X6_startOver h p0).bind fun h1 => (F_X6_takeWord h1 1000).bind fun h2 => (F_X6_takeNumber h2 (2 : Int32) (8 : Int32)).bind fun z3 => (F_X6_takeNumber (pu z3.2 3 0 z3.1) (1 : Int32) (999 : Int32)).bind fun z4 => (F_X6_takeSign (pu z4.2 3 1 z4.1) (59 : Int32)).bind fun h5 => loop Bc ((0 : Int32), h5) := rfl
def FrL (a : Nat) : Prop := a = 1 ∨ (3 ≤ a ∧ a ≤ 12)
/-- what is read so far of a text that begins with its -/
def PRD (its : List Itm) (N : NT) (sv : Option (List Stq)) : Prop := ∀ (b : Nat → Nat) (n : Nat) (h : PH) (rest : List Itm), n ≤ 700 → (∀ j, b j < 256) → (∀ j, j < n → h.1 2 j &&& (255 : Int32) = nI (b j)) → LX b n 0 (toks its ++ rest) → ∃ k g p, F_X6_readSetup h (nI n) = loop Bc (nI k, g) ∧ RS b n g p rest N sv ∧ Fr FrL h g ∧ g.1 1 3 = 0 ∧ k ≤ p
theorem FS.L {h h' : PH} (f : FS h h') : Fr FrL h h' := f.1.mono (fun i hi => by unfold FrL; omega)
theorem net0_WN {a c : Nat} (ha : a ≤ 8) (hc : c ≤ 999) : WN (net0 a c) := ⟨ha, hc, Nat.zero_le _, Nat.zero_le _, fun x hx => absurd hx (Nat.not_lt_zero _), fun x hx => absurd hx (Nat.not_lt_zero _), fun x hx => absurd hx (Nat.not_lt_zero _)⟩
theorem GS.same2 {b : Nat → Nat} {n p : Nat} {l : List Itm} {g g' : PH} (h : GS b n g p l) (f : Fr (fun a => a = 3) g g') : GS b n g' p l := h.same (f 1 (by omega)).1 (f 2 (by omega)).1
theorem pr_head {a c : Nat} (ha : 2 ≤ a ∧ a ≤ 8) (hc : 1 ≤ c ∧ c ≤ 999) : PRD [(2, 0), (3, 0), (1, a), (3, 0), (1, c), (0, 59)] (net0 a c) none := fun b n h rest hn hb hB hX => by
  have hX : LX b n 0 ((2, 0) :: (1, a) :: (1, c) :: (0, 59) :: rest) := hX
  rw [readSetup_is]
  unfold F_X6_startOver
  obtain ⟨X, hXe⟩ : ∃ X, X = (pu (pu (pu (pu (pu (pu (F_X0_clear (F_X2_clear h)) 1 3 (0 : Int32)) 1 4 (nI n)) 1 6 (0 : Int32)) 1 9 (0 : Int32)) 1 10 (0 : Int32)) 1 11 (-1 : Int32)) := ⟨_, rfl⟩
  rw [← hXe]
  have fX : Fr FrL h X := by
    rw [hXe]
    unfold F_X0_clear F_X2_clear
    refine Fr.trans (Fr.trans (Fr.trans (Fr.trans (Fr.trans (Fr.trans (Fr.trans (Fr.trans (Fr.trans (Fr.trans (Fr.pu ?_) (Fr.pu ?_)) (Fr.pu ?_)) (Fr.pu ?_)) (Fr.pu ?_)) (Fr.pu ?_)) (Fr.pu ?_)) (Fr.pu ?_)) (Fr.pu ?_)) (Fr.pu ?_)) (Fr.pu ?_) <;> (unfold FrL; omega)
  have gX : ∀ i k, X.1 i k = if i = 1 ∧ k = 11 then (-1 : Int32) else if i = 1 ∧ k = 10 then 0 else if i = 1 ∧ k = 9 then 0 else if i = 1 ∧ k = 6 then 0 else if i = 1 ∧ k = 4 then nI n else if i = 1 ∧ k = 3 then 0 else if i = 10 ∧ k = 2 then 0 else if i = 3 ∧ k = 3 then 0 else if i = 3 ∧ k = 2 then 0 else if i = 3 ∧ k = 1 then 0 else if i = 3 ∧ k = 0 then 0 else h.1 i k := fun i k => by
    rw [hXe]
    unfold F_X0_clear F_X2_clear
    simp only [pu_get]
  have x11 : X.1 1 11 = (-1 : Int32) := by rw [gX, if_pos ⟨rfl, rfl⟩]
  have x10 : X.1 1 10 = 0 := by rw [gX, if_neg (by omega), if_pos ⟨rfl, rfl⟩]
  have x9 : X.1 1 9 = 0 := by rw [gX, if_neg (by omega), if_neg (by omega), if_pos ⟨rfl, rfl⟩]
  have x6 : X.1 1 6 = nI 0 := by rw [gX, if_neg (by omega), if_neg (by omega), if_neg (by omega), if_pos ⟨rfl, rfl⟩]; rfl
  have x4 : X.1 1 4 = nI n := by rw [gX, if_neg (by omega), if_neg (by omega), if_neg (by omega), if_neg (by omega), if_pos ⟨rfl, rfl⟩]
  have x3 : X.1 1 3 = 0 := by rw [gX, if_neg (by omega), if_neg (by omega), if_neg (by omega), if_neg (by omega), if_neg (by omega), if_pos ⟨rfl, rfl⟩]
  have x102 : X.1 10 2 = 0 := by rw [gX, if_neg (by omega), if_neg (by omega), if_neg (by omega), if_neg (by omega), if_neg (by omega), if_neg (by omega), if_pos ⟨rfl, rfl⟩]
  have x33 : X.1 3 3 = 0 := by rw [gX, if_neg (by omega), if_neg (by omega), if_neg (by omega), if_neg (by omega), if_neg (by omega), if_neg (by omega), if_neg (by omega), if_pos ⟨rfl, rfl⟩]
  have x32 : X.1 3 2 = 0 := by rw [gX, if_neg (by omega), if_neg (by omega), if_neg (by omega), if_neg (by omega), if_neg (by omega), if_neg (by omega), if_neg (by omega), if_neg (by omega), if_pos ⟨rfl, rfl⟩]
  clear gX
  have cX : CB b n X := ⟨x4, fun j hj => by rw [(fX 2 (by unfold FrL; omega)).1]; exact hB j hj⟩
  obtain ⟨g1, a1, a2, a3⟩ := c_next hn hb cX (p := 0) (Nat.zero_le _) x6
  have s1 : GS b n g1 0 ((2, 0) :: (1, a) :: (1, c) :: (0, 59) :: rest) := ⟨cX.ft a2, a3, hX, (a2.2 10 (by omega)).trans x10, (a2.2 11 (by omega)).trans x11⟩
  obtain ⟨g2, p2, b1, b2, b3, b4⟩ := p_next hn hb s1 (fun _ => by show 0 < 7; omega)
  obtain ⟨g3, p3, c1, c2, c3, c4⟩ := p_num hn hb b2 (lo := 2) (hi := 8) ha.1 ha.2 (by omega)
  have f3 : Fr (fun i => i = 3) g3 (pu g3 3 0 (nI a)) := Fr.pu rfl
  have s3 := c2.same2 f3
  have v30 : (pu g3 3 0 (nI a)).1 3 0 = nI a := by rw [pu_get, if_pos ⟨rfl, rfl⟩]
  have o3 : ∀ k, k ≠ 0 → (pu g3 3 0 (nI a)).1 3 k = g3.1 3 k := fun k hk => by rw [pu_get, if_neg (fun z => hk z.2)]
  have hG3 : ∃ G, G = pu g3 3 0 (nI a) := ⟨_, rfl⟩
  obtain ⟨G3, hG3⟩ := hG3
  rw [← hG3] at f3 s3 v30 o3
  obtain ⟨g4, p4, d1, d2, d3, d4⟩ := p_num hn hb s3 (lo := 1) (hi := 999) hc.1 hc.2 (by omega)
  have f4 : Fr (fun i => i = 3) g4 (pu g4 3 1 (nI c)) := Fr.pu rfl
  have s4 := d2.same2 f4
  have v41 : (pu g4 3 1 (nI c)).1 3 1 = nI c := by rw [pu_get, if_pos ⟨rfl, rfl⟩]
  have o4 : ∀ k, k ≠ 1 → (pu g4 3 1 (nI c)).1 3 k = g4.1 3 k := fun k hk => by rw [pu_get, if_neg (fun z => hk z.2)]
  obtain ⟨G4, hG4⟩ : ∃ G, G = pu g4 3 1 (nI c) := ⟨_, rfl⟩
  rw [← hG4] at f4 s4 v41 o4
  obtain ⟨g5, p5, e1, e2, e3, e4⟩ := p_sign hn hb s4
  -- thing 3, thing 10, the flag along the way
  have t3a : ∀ k, g3.1 3 k = X.1 3 k := fun k => by rw [(c3.1 3 (by omega)).1, (b3.1 3 (by omega)).1, (a2.1 3 (by omega)).1]
  have t3b : ∀ k, g5.1 3 k = G4.1 3 k := fun k => by rw [(e3.1 3 (by omega)).1]
  have t3c : ∀ k, g4.1 3 k = G3.1 3 k := fun k => by rw [(d3.1 3 (by omega)).1]
  have ff : ∀ j, ¬ (5 ≤ j ∧ j ≤ 8) → g5.1 1 j = X.1 1 j := fun j hj => by
    rw [e3.2 j hj, (f4 1 (by omega)).1, d3.2 j hj, (f3 1 (by omega)).1, c3.2 j hj, b3.2 j hj, a2.2 j hj]
  have t10 : g5.1 10 = X.1 10 := by
    rw [(e3.1 10 (by omega)).1, (f4 10 (by omega)).1, (d3.1 10 (by omega)).1, (f3 10 (by omega)).1, (c3.1 10 (by omega)).1, (b3.1 10 (by omega)).1, (a2.1 10 (by omega)).1]
  have toL : ∀ {g g' : PH}, FT g g' → Fr FrL g g' := fun {g g'} f => f.1.mono (fun i hi => Or.inl hi)
  have to3 : ∀ {g g' : PH}, Fr (fun i => i = 3) g g' → Fr FrL g g' := fun {g g'} f => f.mono (fun i hi => by unfold FrL; omega)
  refine ⟨0, g5, p5, ?_, ⟨e2, ⟨?_, ?_, ?_, ?_, fun x hx => absurd hx (Nat.not_lt_zero _), fun x hx => absurd hx (Nat.not_lt_zero _), fun x hx => absurd hx (Nat.not_lt_zero _)⟩, net0_WN ha.2 hc.2, ?_, ?_, fun i s hi => by cases hi⟩, fX.trans ((toL a2).trans ((toL b3).trans ((toL c3).trans ((to3 f3).trans ((toL d3).trans ((to3 f4).trans (toL e3))))))), ?_, Nat.zero_le _⟩
  · have iw : F_X6_isWord g1 1000 = some 1 := w_is hn hb s1 (j := 0) (by omega) (by omega)
    rw [a1, Option.bind_some, Option.bind_some]
    unfold F_X6_takeWord
    rw [iw, Option.bind_some, if_pos (show ¬ (1 : Int32) = 0 by decide), b1, Option.bind_some, Option.bind_some, show F_X6_takeNumber g2 (2 : Int32) (8 : Int32) = _ from c1, Option.bind_some]
    dsimp only
    rw [← hG3, show F_X6_takeNumber G3 (1 : Int32) (999 : Int32) = _ from d1, Option.bind_some]
    dsimp only
    rw [← hG4, show F_X6_takeSign G4 (59 : Int32) = _ from e1, Option.bind_some]
    rfl
  · rw [t3b, o4 0 (by omega), t3c]
    exact v30
  · rw [t3b]
    exact v41
  · rw [t3b, o4 2 (by omega), t3c, o3 2 (by omega), t3a]
    exact x32
  · rw [t3b, o4 3 (by omega), t3c, o3 3 (by omega), t3a]
    exact x33
  · rw [ff 9 (by omega)]
    exact x9
  · show g5.1 10 2 = nI 0
    rw [t10]
    exact x102
  · rw [ff 3 (by omega)]
    exact x3
theorem pr_step {its st : List Itm} {N N' : NT} {sv sv' : Option (List Stq)} (h : PRD its N sv) (hs : STM (toks st) N N' sv sv') (hx : ∃ x r, toks st = x :: r ∧ tkO x) : PRD (its ++ st) N' sv' := fun b n hh rest hn hb hB hX => by
  rw [toks_app, List.append_assoc] at hX
  obtain ⟨k, g, p, a1, a2, a3, a4, a5⟩ := h b n hh (toks st ++ rest) hn hb hB hX
  obtain ⟨g', p', b1, b2, b3, b4⟩ := hs b n g p rest hn hb a2
  obtain ⟨x, r, e1, ox⟩ := hx
  have hG : GS b n g p (x :: (r ++ rest)) := by
    have := a2.1
    rw [e1] at this
    exact this
  have hlt := hG.lt ox
  refine ⟨k + 1, g', p', ?_, b2, a3.trans b3.L, (b3.2 3 (by omega)).trans a4, by omega⟩
  rw [a1]
  conv => lhs; rw [loop_eq, Bc_S]
  dsimp only
  have cnd : ¬ ((g.1 1 4) ≤ nI k ∨ ¬ (g.1 1 10) = 0 ∨ (g.1 1 7) = (258 : Int32)) := fun z => by
    rcases z with z | z | z
    · rw [hG.1.1] at z
      have := (nI_le' (by omega) (by omega)).mp z
      omega
    · exact z hG.2.2.2.1
    · rw [p_kind hG ox] at z
      have hs : x.1 = 0 → x.2 < 128 := fun z => by
        rcases hG.2.2.1.1 with ⟨-, -, y1⟩ | ⟨y, -⟩ | ⟨y, -⟩ <;> omega
      have := (nI_eq (b := 258) (by
        by_cases y : x.1 = 0
        · rw [if_pos y]
          have := hs y
          omega
        · rw [if_neg y]
          split <;> omega) (by omega)).mp z
      by_cases y : x.1 = 0
      · rw [if_pos y] at this
        have := hs y
        omega
      · rw [if_neg y] at this
        split at this <;> omega
  rw [if_neg cnd, b1, Option.bind_some, Option.bind_some, nI_1]
/-- the network that a text gives -/
def netOf (N : NT) : Option (List Stq) → NT
  | none => N
  | some l => addS N (svOf N l)
def svOK : Option (List Stq) → Prop
  | none => True
  | some l => l.length ≤ 600 ∧ (∀ s ∈ l, stOK s) ∧ ∀ c d : Int, ∃ st, evs c d l [] = some st ∧ st.length = 1
theorem netOf_WN {N : NT} {sv : Option (List Stq)} (h : WN N) (hs : svOK sv) : WN (netOf N sv) := by
  cases sv with
  | none => exact h
  | some l =>
    obtain ⟨h1, h2, h3, h4, h5, h6, h7⟩ := h
    refine ⟨h1, h2, h3, h4, fun a ha => ?_, h6, h7⟩
    obtain ⟨y1, y2, y3, y4, y5⟩ := h5 a ha
    refine ⟨y1, y2, y3, ?_, y5⟩
    obtain ⟨v, v1, v2, v3⟩ := svOf_ok (N := N) (x := a) hs.2.2
    show svOf N l a ≤ 9999
    omega
theorem c_priceG {g : PH} {N : NT} {l : List Stq} (hc : CN g 3 N) (hN9 : WN N) (F : FG g l) (hs : svOK (some l)) : ∃ g', F_X6_priceServices g = some g' ∧ Fr (fun a => a = 6 ∨ a = 12) g g' ∧ ∀ x, x < 2 * wE N → g'.1 6 x = nI (svOf N l x) := by
  have hE := hN9.2.2.1
  obtain ⟨f6, f5, f8⟩ := hs
  obtain ⟨f1, f2⟩ := F
  unfold F_X6_priceServices
  refine loop_ind0 (σ := Int32 × PH) (fun k s => s.1 = nI k ∧ k ≤ 2 * wE N ∧ Fr (fun a => a = 6 ∨ a = 12) g s.2 ∧ ∀ x, x < k → s.2.1 6 x = nI (svOf N l x)) _ (2 * wE N) ⟨rfl, Nat.zero_le _, Fr.refl g, fun x hx => absurd hx (Nat.not_lt_zero _)⟩ ?_
  rintro k ⟨s1, s2⟩ ⟨e1, i2', i3', i4'⟩
  dsimp only at e1 i3' i4' ⊢
  subst e1
  have a3 : s2.1 3 2 = nI (wE N) := by rw [(i3' 3 (by omega)).1]; exact hc.2.2.1
  rw [a3, i2, nI_mul]
  rcases Nat.lt_or_ge k (2 * wE N) with q | q
  · right
    refine ⟨q, ?_⟩
    have a5 : F_X7_at 28 s2 5 (nI k) = nI (wCo N k) := by
      rw [at_in (by omega) (by omega), (i3' 5 (by omega)).1]
      exact (hc.2.2.2.2.1 k q).2.1
    have a8 : F_X7_at 14 s2 8 (nI k / nI 2) = nI (wDe N (k / 2)) := by
      rw [nI_div (by omega) (by omega), at_in (by omega) (by omega), (i3' 8 (by omega)).1]
      exact hc.2.2.2.2.2.1 (k / 2) (by omega)
    have hf : CF s2 l := ⟨by rw [(i3' 10 (by omega)).1]; exact f1, by omega, fun i s hs => by rw [(i3' 11 (by omega)).1]; exact f2 i s hs⟩
    obtain ⟨v, v1, v2, v3⟩ := svOf_ok (N := N) (x := k) f8
    obtain ⟨h', c1, c2, c3⟩ := c_value hf f5 (hN9.2.2.2.2.1 k q).2.2.1 (hN9.2.2.2.2.2.1 (k / 2) (by omega)) v1
    have hb := c3
    unfold bnd at hb
    have lim' : F_X7_limited h' (zi v).toInt64 (0 : Int32) (9999 : Int32) = nI (svOf N l k) := by
      rw [zi_64 (by omega), show (0 : Int32) = zi 0 from rfl, show (9999 : Int32) = zi 9999 from rfl, c_limited (by omega) (by omega) (by omega), nI_zi, v3]
    rw [if_neg (nI_ge q (by omega)), a5, a8, c1, Option.bind_some]
    dsimp only
    rw [lim', put_in (by omega) (by omega)]
    refine ⟨_, rfl, nI_1 k, q, (i3'.trans (c2.mono (fun i hi => Or.inr hi))).trans (Fr.pu (Or.inl rfl)), fun x hx => ?_⟩
    dsimp only
    rw [pu_get]
    by_cases y : x = k
    · rw [if_pos ⟨rfl, y⟩, y]
    · rw [if_neg (fun z => y z.2), (c2 6 (by omega)).1]
      exact i4' x (by omega)
  · obtain rfl : k = 2 * wE N := by omega
    left
    rw [if_pos (nI_le (Nat.le_refl _) (by omega))]
    exact ⟨_, rfl, i3', i4'⟩
/-- the whole text -/
theorem pr_all {its : List Itm} {N : NT} {sv : Option (List Stq)} (h : PRD its N sv) (hsv : svOK sv) {b : Nat → Nat} {n : Nat} {hh : PH} (hn : n ≤ 700) (hb : ∀ j, b j < 256) (hB : ∀ j, j < n → hh.1 2 j &&& (255 : Int32) = nI (b j)) (hX : LX b n 0 (toks its)) : ∃ g, F_X6_readSetup hh (nI n) = some ((0 : Int32), g) ∧ CN g 3 (netOf N sv) ∧ WN (netOf N sv) ∧ Fr FrL hh g ∧ g.1 1 3 = 0 := by
  obtain ⟨k, g, p, a1, ⟨a2, a3, a4, a5, a6⟩, a7, a8, a9⟩ := h b n hh [] hn hb hB (by rw [List.append_nil]; exact hX)
  have e258 : g.1 1 7 = (258 : Int32) := by
    rw [a2.2.1.2.2.2.1, show sk b n p = n from a2.2.2.1]
    unfold kd
    rw [if_neg (Nat.lt_irrefl n)]
    rfl
  rw [a1, loop_eq, Bc_S]
  dsimp only
  rw [if_pos (Or.inr (Or.inr e258)), if_neg (fun z => z a2.2.2.2.1), a5]
  cases sv with
  | none =>
    rw [if_pos (show fl (none : Option (List Stq)).isSome = 0 from rfl), Option.bind_some, a2.2.2.2.1]
    exact ⟨g, rfl, a3, a4, a7, a8⟩
  | some l =>
    obtain ⟨g', b1, b2, b3⟩ := c_priceG a3 a4 a6 hsv
    rw [show fl (some l).isSome = (1 : Int32) from rfl, if_neg (show ¬ (1 : Int32) = 0 by decide), b1, Option.bind_some, Option.bind_some, (b2 1 (by omega)).1, a2.2.2.2.1]
    refine ⟨g', rfl, ?_, netOf_WN a4 hsv, a7.trans (b2.mono (fun i hi => by unfold FrL; omega)), by rw [(b2 1 (by omega)).1]; exact a8⟩
    obtain ⟨y1, y2, y3, y4, y5, y6, y7⟩ := a3
    have o : ∀ i, i ≠ 6 → i ≠ 12 → g'.1 i = g.1 i := fun i h1 h2 => (b2 i (by omega)).1
    refine ⟨by rw [o 3 (by omega) (by omega)]; exact y1, by rw [o 3 (by omega) (by omega)]; exact y2, by rw [o 3 (by omega) (by omega)]; exact y3, by rw [o 3 (by omega) (by omega)]; exact y4, fun a ha => ?_, fun e he => by rw [o _ (by omega) (by omega)]; exact y6 e he, fun d hd => by rw [o _ (by omega) (by omega)]; exact y7 d hd⟩
    obtain ⟨z1, z2, z3, z4⟩ := y5 a ha
    exact ⟨by rw [o _ (by omega) (by omega)]; exact z1, by rw [o _ (by omega) (by omega)]; exact z2, b3 a ha, by rw [o _ (by omega) (by omega)]; exact z4⟩
/-- load -/
theorem l_loadT {its : List Itm} {N N0 : NT} {P : PT} {H : HT} {sv : Option (List Stq)} {hh : PH} {n : Nat} (h : PRD its N sv) (hsv : svOK sv) (ok : okS N0 P H) (ca : CA hh N0 P) (ch : CH hh N0 H) {b : Nat → Nat} (hn : n ≤ 700) (hb : ∀ j, b j < 256) (hB : ∀ j, j < n → hh.1 2 j &&& (255 : Int32) = nI (b j)) (hX : LX b n 0 (toks its)) {T : Nat} (hT : hh.1 1 3 = nI T) (hT2 : n ≤ T) (hT7 : T ≤ 700) : ∃ g, F_L_load hh (nI n) = some (nI (wE N), g) ∧ CA g (netOf N sv) P0 ∧ CH g (netOf N sv) (hpush H N0 P true) ∧ WN (netOf N sv) ∧ g.1 1 3 = 0 := by
  obtain ⟨g, a1, a2, a3, a4, a5⟩ := pr_all h hsv hn hb hB hX
  have ca1 : CA g N0 P := ⟨ca.1.fr a4 (fun j hj => by unfold FrL; omega), ca.2.1.same (fun j h1 h2 => (a4 j (by unfold FrL; omega)).1), ca.2.2.fr a4 (fun j hj => by unfold FrL; omega)⟩
  have ch1 : CH g N0 H := ch.up (fun a h1 h2 => (a4 a (by unfold FrL; omega)).1)
  obtain ⟨g2, b1, b2, b3, b4⟩ := c_loaded ok a3 ca1 ch1 a2
  have e : wE (netOf N sv) = wE N := by cases sv <;> rfl
  refine ⟨g2, ?_, b3, b4, a3, by rw [(b2 1 (by unfold SC; omega)).1]; exact a5⟩
  unfold F_L_load F_X7_load
  rw [if_neg (nI_pos (by omega)), hT, if_pos (nI_le hT2 (by omega)), a1, Option.bind_some]
  dsimp only
  rw [if_pos rfl, b1, Option.bind_some, bs_r, e]
