/-! TREES AND THEIR TEXTS: items are signs (0), numbers (1), words (2), spaces (3) -/
abbrev Itm : Type := Nat × Nat
def wbs (i : Nat) : List Nat := (List.range (slenF i)).map (wc i)
def itB (x : Itm) : List Nat := if x.1 = 0 then [x.2] else if x.1 = 1 then dg x.2 else if x.1 = 2 then wbs x.2 else [32]
def rend (l : List Itm) : List Nat := l.flatMap itB
theorem rend_nil : rend [] = [] := rfl
theorem rend_cons (x : Itm) (l : List Itm) : rend (x :: l) = itB x ++ rend l := List.flatMap_cons
theorem rend_app (a b : List Itm) : rend (a ++ b) = rend a ++ rend b := List.flatMap_append
theorem itB_0 (c : Nat) : itB (0, c) = [c] := rfl
theorem itB_1 (v : Nat) : itB (1, v) = dg v := rfl
theorem itB_2 (i : Nat) : itB (2, i) = wbs i := rfl
theorem itB_3 (v : Nat) : itB (3, v) = [32] := rfl
theorem dg_len {v : Nat} (h : v < 10000) : 1 ≤ (dg v).length ∧ (dg v).length ≤ 4 := by
  by_cases q1 : v < 10
  · rw [dg_1 q1]
    exact ⟨Nat.le_refl 1, by show 1 ≤ 4; omega⟩
  · by_cases q2 : v < 100
    · rw [dg_2 (by omega) q2]
      exact ⟨by show 1 ≤ 2; omega, by show 2 ≤ 4; omega⟩
    · by_cases q3 : v < 1000
      · rw [dg_3 (by omega) q3]
        exact ⟨by show 1 ≤ 3; omega, by show 3 ≤ 4; omega⟩
      · rw [dg_4 (by omega) h]
        exact ⟨by show 1 ≤ 4; omega, Nat.le_refl 4⟩
def opI (k : Nat) : List Itm := if k = 2 then [(0, 43)] else if k = 3 then [(3, 0), (0, 45), (3, 0)] else if k = 4 then [(0, 42), (3, 0)] else [(0, 47)]
def opR (k : Nat) : gRF := some (.inr (if k = 2 then 30 else if k = 3 then 32 else if k = 4 then 34 else 36))
def owk (k : Nat) : Nat := if k < 4 then 1 else 2
/-- a tree with its steps and its texts -/
def GTX (D : gDS) : Nat → gRF → List Stq → (Nat → List Itm) → Prop
  | 0, _, _, _ => False
  | n + 1, r, l, tx => ∃ (i k v : Nat) (a b : gRF), r = rf i ∧ tO D i 9 [.inl (nI k), .inl (nI v), .inr (.inr a), .inr (.inr b)] ∧ ((k ≤ 1 ∧ stOK (k, v) ∧ l = [(k, v)] ∧ ∀ q, tx q = [if k = 0 then (1, v) else (2, 5 + v)]) ∨ (2 ≤ k ∧ k ≤ 5 ∧ ∃ la lb ta tb, GTX D n a la ta ∧ GTX D n b lb tb ∧ l = la ++ (lb ++ [(k, 0)]) ∧ ∀ q, tx q = if owk k < q then (0, 40) :: (ta (owk k) ++ (opI k ++ (tb (owk k + 1) ++ [(0, 41)]))) else ta (owk k) ++ (opI k ++ tb (owk k + 1))))
theorem GTX.ext {W : Nat → Prop} {A B : gDS} (x : gE W A B) (hw : ∀ i, i < A.1.length → W i → kt A i ≠ 109) : ∀ {n r l tx}, GTX A n r l tx → GTX B n r l tx
  | 0, _, _, _, h => h
  | n + 1, _, _, _, ⟨i, k, v, a, b, h1, h2, h3⟩ => ⟨i, k, v, a, b, h1, x.tO (fun q => hw i (tO_lt h2) q (tO.tg h2)) h2, by
    rcases h3 with h3 | ⟨q1, q2, la, lb, ta, tb, q3, q4, q5⟩
    · exact Or.inl h3
    · exact Or.inr ⟨q1, q2, la, lb, ta, tb, GTX.ext x hw q3, GTX.ext x hw q4, q5⟩⟩
theorem GTX.GN {D : gDS} : ∀ {n r l tx}, GTX D n r l tx → GN D n r l
  | 0, _, _, _, h => h
  | n + 1, _, _, _, ⟨i, k, v, a, b, h1, h2, h3⟩ => ⟨i, k, v, a, b, h1, h2, by
    rcases h3 with ⟨q1, q2, q3, -⟩ | ⟨q1, q2, la, lb, ta, tb, q3, q4, q5, -⟩
    · exact Or.inl ⟨q1, q2, q3⟩
    · exact Or.inr ⟨q1, q2, la, lb, GTX.GN q3, GTX.GN q4, q5⟩⟩
theorem GTX.up {D : gDS} : ∀ {n r l tx}, GTX D n r l tx → GTX D (n + 1) r l tx
  | 0, _, _, _, h => absurd h id
  | n + 1, _, _, _, ⟨i, k, v, a, b, h1, h2, h3⟩ => ⟨i, k, v, a, b, h1, h2, by
    rcases h3 with h3 | ⟨q1, q2, la, lb, ta, tb, q3, q4, q5⟩
    · exact Or.inl h3
    · exact Or.inr ⟨q1, q2, la, lb, ta, tb, GTX.up q3, GTX.up q4, q5⟩⟩
def lnn : Nat → Nat
  | 0 => 0
  | n + 1 => 2 * lnn n + 6
theorem opI_len {k : Nat} : (rend (opI k)).length ≤ 3 := by
  unfold opI
  split
  · exact Nat.le_of_ble_eq_true rfl
  · split
    · exact Nat.le_of_ble_eq_true rfl
    · split <;> exact Nat.le_of_ble_eq_true rfl
theorem wbs_len {i : Nat} (h : i < 7) : (wbs i).length = slenF i ∧ slenF i ≤ 7 := by
  have := wl_ok i h
  unfold wbs
  rw [List.length_map, List.length_range]
  exact ⟨rfl, this.2⟩
theorem sl_56 {v : Nat} (h : v ≤ 1) : slenF (5 + v) ≤ 6 := by
  have h : v = 0 ∨ v = 1 := by omega
  rcases h with rfl | rfl <;> exact Nat.le_of_ble_eq_true rfl
theorem GTX.len {D : gDS} : ∀ {n r l tx}, GTX D n r l tx → ∀ q, (rend (tx q)).length ≤ lnn n
  | 0, _, _, _, h, _ => absurd h id
  | n + 1, _, _, _, ⟨i, k, v, a, b, h1, h2, h3⟩, q => by
    show _ ≤ 2 * lnn n + 6
    rcases h3 with ⟨q1, q2, q3, q4⟩ | ⟨q1, q2, la, lb, ta, tb, q3, q4, q5, q6⟩
    · rw [q4 q, rend_cons, rend_nil, List.append_nil]
      by_cases z : k = 0
      · rw [if_pos z, itB_1]
        have := dg_len (v := v) (by have := q2.2.1 z; show v < 10000; have e : (k, v).2 = v := rfl; omega)
        omega
      · rw [if_neg z, itB_2]
        have hv : v ≤ 1 := q2.2.2 (show k = 1 by omega)
        have := wbs_len (i := 5 + v) (by omega)
        have := sl_56 hv
        omega
    · have la := q3.len (owk k)
      have lb := q4.len (owk k + 1)
      have lo := opI_len (k := k)
      rw [q6 q]
      split
      · rw [rend_cons, rend_app, rend_app, rend_app, rend_cons, rend_nil, itB_0, itB_0]
        simp only [List.length_append, List.length_cons, List.length_nil]
        omega
      · rw [rend_app, rend_app]
        simp only [List.length_append]
        omega
def kcl : Nat → Nat
  | 0 => 0
  | n + 1 => 2 * kcl n + 16
def ksl : Nat → Nat
  | 0 => 0
  | n + 1 => 2 * ksl n + 20000
theorem jn_own {α : Type} {k : Nat} (hk : k ≤ 5) (K : Int32 → Option α) : jn K (fun k4 => if (4 : Int32) ≤ nI k then k4 ((2 : Int32)) else k4 ((1 : Int32))) = K (nI (owk k)) := by
  unfold jn owk
  dsimp only
  by_cases q : k < 4
  · rw [if_pos q, if_neg (fun z => by have := (nI_le' (a := 4) (b := k) (by omega) (by omega)).mp z; omega)]
    rfl
  · rw [if_neg q, if_pos (show (4 : Int32) ≤ nI k from (nI_le' (a := 4) (b := k) (by omega) (by omega)).mpr (by omega))]
    rfl
theorem jn_op {α : Type} {k : Nat} (hk : 2 ≤ k ∧ k ≤ 5) (K : gRF → Option α) : jn K (fun k11 =>
     if ¬ nI k = (2 : Int32) then
      (some (nI k)).bind fun z23 =>
      if ¬ z23 = (3 : Int32) then
       (some (nI k)).bind fun z24 =>
       if ¬ z24 = (4 : Int32) then
        k11 ((some (.inr 36)))
       else
        k11 ((some (.inr 34)))
      else
       k11 ((some (.inr 32)))
     else
      k11 ((some (.inr 30)))) = K (opR k) := by
  unfold jn opR
  dsimp only
  have c : k = 2 ∨ k = 3 ∨ k = 4 ∨ k = 5 := by omega
  have d1 : nI 2 = (2 : Int32) := rfl
  have d2 : ¬ nI 3 = (2 : Int32) := by decide
  have d3 : nI 3 = (3 : Int32) := rfl
  have d4 : ¬ nI 4 = (2 : Int32) := by decide
  have d5 : ¬ nI 4 = (3 : Int32) := by decide
  have d6 : nI 4 = (4 : Int32) := rfl
  have d7 : ¬ nI 5 = (2 : Int32) := by decide
  have d8 : ¬ nI 5 = (3 : Int32) := by decide
  have d9 : ¬ nI 5 = (4 : Int32) := by decide
  rcases c with rfl | rfl | rfl | rfl
  · rw [if_neg (not_not_intro d1)]
    rfl
  · rw [if_pos d2, Option.bind_some, if_neg (not_not_intro d3)]
    rfl
  · rw [if_pos d4, Option.bind_some, if_pos d5, Option.bind_some, if_neg (not_not_intro d6)]
    rfl
  · rw [if_pos d7, Option.bind_some, if_pos d8, Option.bind_some, if_pos d9]
    rfl
theorem opS {D : gDS} {k : Nat} (hk : 2 ≤ k ∧ k ≤ 5) : SS D (opR k) ((rend (opI k)).map nI) := by
  have c : k = 2 ∨ k = 3 ∨ k = 4 ∨ k = 5 := by omega
  rcases c with rfl | rfl | rfl | rfl
  · exact Or.inr ⟨10, by omega, rfl, rfl⟩
  · exact Or.inr ⟨11, by omega, rfl, rfl⟩
  · exact Or.inr ⟨12, by omega, rfl, rfl⟩
  · exact Or.inr ⟨13, by omega, rfl, rfl⟩
theorem opR_c {D : gDS} {k b : Nat} (h : gFr D (opR k) 11 0 = some (rf b)) : False := by
  unfold opR gFr gFld gkF at h
  dsimp only at h
  cases hq : (Nat.beq 11 11 && gkS (if k = 2 then 30 else if k = 3 then 32 else if k = 4 then 34 else 36)) with
  | true =>
    rw [hq] at h
    cases h
  | false =>
    rw [hq] at h
    cases h
theorem con_c {D : gDS} {q b : Nat} (h : gFr D (some (.inr q)) 11 0 = some (rf b)) : False := by
  unfold gFr gFld gkF at h
  dsimp only at h
  cases hq : (Nat.beq 11 11 && gkS q) with
  | true =>
    rw [hq] at h
    cases h
  | false =>
    rw [hq] at h
    cases h
theorem x_text : ∀ (n : Nat) (D : gDS) (r : gRF) (l : List Stq) (tx : Nat → List Itm) (q : Nat), n ≤ 4 → GTX D n r l tx → q ≤ 3 → ∃ r' D', R_X9_text n D r (nI q) = some (r', D') ∧ SS D' r' ((rend (tx q)).map nI) ∧ (∀ b, gFr D' r' 11 0 = some (rf b) → D.1.length ≤ b) ∧ gE noW D D' ∧ gMd (kcl n) (ksl n) D D'
  | 0, _, _, _, _, _, _, h, _ => absurd h id
  | n + 1, D, r, l, tx, q, hn, h, hq => by
    obtain ⟨i, k, v, a, b, rfl, h2, h3⟩ := h
    have hlnn : lnn n ≤ 42 := by
      have c : n = 0 ∨ n = 1 ∨ n = 2 ∨ n = 3 := by omega
      rcases c with rfl | rfl | rfl | rfl <;> exact Nat.le_of_ble_eq_true rfl
    have ek : kcl (n + 1) = 2 * kcl n + 16 := rfl
    have es : ksl (n + 1) = 2 * ksl n + 20000 := rfl
    show ∃ r' D', F_X9_text (R_X9_text n) D (rf i) (nI q) = some (r', D') ∧ _
    unfold F_X9_text
    rw [gRv_t h2, Option.bind_some, gFi_t h2 (b := 0) rfl, Option.bind_some]
    rcases h3 with ⟨q1, q2, q3, q4⟩ | ⟨q1, q2, la, lb, ta, tb, q3, q4, q5, q6⟩
    · by_cases z : k = 0
      · have hv : v < 10000 := by have := q2.2.1 z; show v < 10000; have e : (k, v).2 = v := rfl; omega
        rw [q4 q, if_pos z, rend_cons, rend_nil, List.append_nil, itB_1, z, if_neg (fun y => y rfl)]
        obtain ⟨D1, a1, a2, a3, a4, a5⟩ := b_init (D := D)
        have hS : SS D1 (some (.inr 24)) [] := Or.inr ⟨7, by omega, rfl, rfl⟩
        obtain ⟨D2, b2, c1, c2, c3, c4, c5⟩ := b_append a2 hS (fun b hb => absurd hb con_c) (by show 0 + 0 ≤ 1000; omega)
        have x2 := a3.on c4 (fun j hj => by omega)
        rw [List.append_nil] at c2
        obtain ⟨D3, b3, d1, d2, d3, d4, d5⟩ := b_lit c2 hv
        have x3 := x2.on d4 (fun j hj => by omega)
        obtain ⟨D4, e1, e2, e3, e4, e5⟩ := b_str d2
        have := x3.1
        refine ⟨rf D3.1.length, D4, ?_, e2, fun b hb => ?_, x3.tr e4, ((((a5.tr c5).tr d5).tr e5)).mono (by omega) (by omega)⟩
        · rw [a1, Option.bind_some, gTop_rf D, c1, Option.bind_some, gFi_t (x2.tO id h2) (b := 1) rfl, Option.bind_some, d1, Option.bind_some, e1, Option.bind_some]
        · rw [e3] at hb
          injection hb with hb
          injection hb with hb
          injection hb with hb
          omega
      · have hk1 : k = 1 := by omega
        have hv : v ≤ 1 := q2.2.2 (show k = 1 by omega)
        rw [q4 q, if_neg z, rend_cons, rend_nil, List.append_nil, itB_2, hk1, if_pos (by decide), Option.bind_some, if_neg (fun y => y rfl), gFi_t h2 (b := 1) rfl, Option.bind_some]
        have e9 : gQld D (some (.inr 1)) (nI v) = some (some (.inr (26 + 2 * v))) := by
          unfold gQld
          rw [show gQs D (some (.inr 1)) = some (40, [some (.inr 26), some (.inr 28)]) from rfl, Option.bind_some, aidx_in (by omega) (by show v < 2; omega), Option.bind_some]
          have hv : v = 0 ∨ v = 1 := by omega
          rcases hv with rfl | rfl <;> rfl
        rw [e9, Option.bind_some]
        refine ⟨_, D, rfl, Or.inr ⟨8 + v, by omega, by rw [show 10 + 2 * (8 + v) = 26 + 2 * v by omega], ?_⟩, fun b hb => absurd hb con_c, gE.rf D, (gMd.rf D).mono (by omega) (by omega)⟩
        have hv : v = 0 ∨ v = 1 := by omega
        rcases hv with rfl | rfl <;> decide +kernel
    · have n1 : ¬ nI k = 0 := fun y => by
        have := (nI_eq (b := 0) (by omega) (by omega)).mp y
        omega
      have n2 : ¬ nI k = (1 : Int32) := fun y => by
        have := (nI_eq (b := 1) (by omega) (by omega)).mp y
        omega
      have hok : owk k ≤ 2 ∧ 1 ≤ owk k := by
        unfold owk
        split <;> omega
      have lla := q3.len (owk k)
      have llb := q4.len (owk k + 1)
      have lo := opI_len (k := k)
      obtain ⟨D1, a1, a2, a3, a4, a5⟩ := b_init (D := D)
      obtain ⟨s1, D2, c1, c2, c3, c4, c5⟩ := x_text n D1 a la ta (owk k) (by omega) (q3.ext a3 (fun _ _ y => absurd y id)) (by omega)
      have x2 := a3.tr c4
      obtain ⟨D3, b3, d1, d2, d3, d4, d5⟩ := b_append (a2.ext c4 id id) c2 (fun b hb => by have := c3 b hb; omega) (by rw [List.length_map]; show 0 + _ ≤ 1000; omega)
      have lx2 := x2.1
      have x3 := x2.on d4 (fun j hj => by omega)
      obtain ⟨D4, b4, e1, e2, e3, e4, e5⟩ := b_append d2 (opS (D := D3) ⟨q1, q2⟩) (fun b hb => absurd hb opR_c) (by simp only [List.length_map, List.length_append, List.nil_append]; omega)
      have lx3 := x3.1
      have x4 := x3.on e4 (fun j hj => by omega)
      obtain ⟨s2, D5, f1, f2, f3, f4, f5⟩ := x_text n D4 b lb tb (owk k + 1) (by omega) (q4.ext x4 (fun _ _ y => absurd y id)) (by omega)
      have x5 := x4.tr f4
      have lx4 := x4.1
      have lb4 := e2.lt
      obtain ⟨D6, b6, g1, g2, g3, g4, g5⟩ := b_append (e2.ext f4 id id) f2 (fun b hb => by have := f3 b hb; omega) (by simp only [List.length_map, List.length_append, List.nil_append]; omega)
      have lx5 := x5.1
      have x6 := x5.on g4 (fun j hj => by omega)
      obtain ⟨D7, h1, hh2, hh3, hh4, hh5⟩ := b_str g2
      have x7 := x6.tr hh4
      have lx6 := x6.1
      have lx7 := x7.1
      have m7 : gMd (2 * kcl n + 7) (2 * ksl n + 9000) D D7 := ((((((a5.tr c5).tr d5).tr e5).tr f5).tr g5).tr hh5).mono (by omega) (by omega)
      rw [if_pos n1, Option.bind_some, if_pos n2, Option.bind_some, jn_own q2, a1, Option.bind_some, gFr_t (a3.tO id h2) (b := 2) rfl, Option.bind_some, c1, Option.bind_some, gTop_rf D, d1, Option.bind_some, gFi_t (x3.tO id h2) (b := 0) rfl, Option.bind_some]
      dsimp only
      rw [jn_op ⟨q1, q2⟩, e1, Option.bind_some, gFr_t (x4.tO id h2) (b := 3) rfl, Option.bind_some, nI_1, f1, Option.bind_some, g1, Option.bind_some, h1, Option.bind_some]
      have et : (([] ++ (rend (ta (owk k))).map nI) ++ (rend (opI k)).map nI) ++ (rend (tb (owk k + 1))).map nI = (rend (ta (owk k) ++ (opI k ++ tb (owk k + 1)))).map nI := by
        rw [rend_app, rend_app, List.map_append, List.map_append, List.nil_append, List.append_assoc]
      rw [et] at hh2
      rw [q6 q]
      by_cases z : owk k < q
      · have n3 : ¬ nI q ≤ nI (owk k) := fun y => by
          have := (nI_le' (by omega) (by omega)).mp y
          omega
        have ll : (rend (ta (owk k) ++ (opI k ++ tb (owk k + 1)))).length ≤ 100 := by
          rw [rend_app, rend_app]
          simp only [List.length_append]
          omega
        obtain ⟨E1, i1, i2, i3, i4, i5⟩ := b_init (D := D7)
        have hS1 : SS E1 (some (.inr 38)) [nI 40] := Or.inr ⟨14, by omega, rfl, rfl⟩
        obtain ⟨E2, j2, j1, j3, j4, j5, j6⟩ := b_append i2 hS1 (fun b hb => absurd hb con_c) (by show 0 + 1 ≤ 1000; omega)
        have y2 := i3.on j5 (fun j hj => by omega)
        have hne : ∀ b, gFr E2 (rf D6.1.length) 11 0 = some (rf b) → b ≠ j2 := fun b hb => by
          have hS7 := hh2.ext y2 (fun _ _ y => absurd y id)
          have e7 : gFr E2 (rf D6.1.length) 11 0 = some (rf (D6.1.length + 1)) := by
            rcases hh2 with ⟨i9, a9, v2, v3, y1, y3, y4⟩ | ⟨j9, -, y1, -⟩
            · injection y1 with y1
              injection y1 with y1
              subst y1
              have := gFr_t y3 (b := 0) rfl
              rw [hh3] at this
              injection this with this
              rw [gFr_t (y2.tO id y3) (b := 0) rfl, this]
            · cases y1
          rw [e7] at hb
          injection hb with hb
          injection hb with hb
          injection hb with hb
          have l9 : D6.1.length + 1 < D7.1.length := by
            rcases hh2 with ⟨i9, a9, v2, v3, y1, y3, y4⟩ | ⟨j9, -, y1, -⟩
            · injection y1 with y1
              injection y1 with y1
              subst y1
              have := gFr_t y3 (b := 0) rfl
              rw [hh3] at this
              injection this with this
              injection this with this
              injection this with this
              rw [this]
              exact tB_lt y4
            · cases y1
          omega
        obtain ⟨E3, k2, k1, k3, k4, k5, k6⟩ := b_append j3 (hh2.ext y2 (fun _ _ y => absurd y id)) hne (by rw [List.length_map]; show 1 + _ ≤ 1000; omega)
        have ly2 := y2.1
        have y3 := y2.on k5 (fun j hj => by omega)
        have hS2 : SS E3 (some (.inr 40)) [nI 41] := Or.inr ⟨15, by omega, rfl, rfl⟩
        obtain ⟨E4, l2, l1, l3, l4, l5, l6⟩ := b_append k3 hS2 (fun b hb => absurd hb con_c) (by simp only [List.length_append, List.length_map, List.nil_append, List.length_cons, List.length_nil]; omega)
        have ly3 := y3.1
        have y4 := y3.on l5 (fun j hj => by omega)
        obtain ⟨E5, m1, m2, m3, m4, m5⟩ := b_str l3
        have ly4 := y4.1
        rw [if_neg n3, i1, Option.bind_some, gTop_rf D7, j1, Option.bind_some, k1, Option.bind_some, l1, Option.bind_some, m1, Option.bind_some, if_pos z]
        refine ⟨_, E5, rfl, ?_, fun b hb => ?_, x7.tr (y4.tr m4), ((((((m7.tr i5).tr j6).tr k6).tr l6).tr m5)).mono (by omega) (by omega)⟩
        · have e9 : ([] ++ [nI 40] ++ (rend (ta (owk k) ++ (opI k ++ tb (owk k + 1)))).map nI) ++ [nI 41] = (rend ((0, 40) :: (ta (owk k) ++ (opI k ++ (tb (owk k + 1) ++ [(0, 41)]))))).map nI := by
            rw [rend_cons, rend_app, rend_app, rend_app, rend_app, rend_app, rend_cons, rend_nil, itB_0, itB_0]
            simp only [List.map_append, List.map_cons, List.map_nil, List.append_assoc, List.nil_append, List.append_nil]
          rw [← e9]
          exact m2
        · rw [m3] at hb
          injection hb with hb
          injection hb with hb
          injection hb with hb
          omega
      · have n3 : nI q ≤ nI (owk k) := (nI_le' (by omega) (by omega)).mpr (by omega)
        rw [if_pos n3, if_neg z]
        refine ⟨_, D7, rfl, hh2, fun b hb => ?_, x7, m7.mono (by omega) (by omega)⟩
        rw [hh3] at hb
        injection hb with hb
        injection hb with hb
        injection hb with hb
        omega
