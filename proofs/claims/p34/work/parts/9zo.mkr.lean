/-! WHAT A CITY IS MADE WITH -/
theorem and1 (y : Int32) : y &&& (1 : Int32) = 0 ↔ y.toBitVec.getLsbD 0 = false := by
  constructor
  · intro h
    have h2 := congrArg (fun z : Int32 => z.toBitVec.getLsbD 0) h
    rw [Int32.toBitVec_and, BitVec.getLsbD_and, show (1 : Int32).toBitVec = 1#32 from rfl, show (1#32).getLsbD 0 = true from rfl, Bool.and_true] at h2
    exact h2
  · intro h
    apply Int32.toBitVec_inj.mp
    apply BitVec.eq_of_getLsbD_eq
    intro j hj
    rw [Int32.toBitVec_and, BitVec.getLsbD_and, show (1 : Int32).toBitVec = 1#32 from rfl, show (0 : Int32).toBitVec = 0#32 from rfl, BitVec.getLsbD_zero]
    rcases Nat.eq_zero_or_pos j with q | q
    · rw [q, h, Bool.false_and]
    · have : (1#32).getLsbD j = false := by
        rw [BitVec.getLsbD_one]
        simp
        omega
      rw [this, Bool.and_false]
theorem sar_q (x : Int32) {q : Nat} (hq : q < 14) : (x >>> (nI q &&& 31)).toBitVec.getLsbD 0 = x.toBitVec.getLsbD q := by
  have c : q = 0 ∨ q = 1 ∨ q = 2 ∨ q = 3 ∨ q = 4 ∨ q = 5 ∨ q = 6 ∨ q = 7 ∨ q = 8 ∨ q = 9 ∨ q = 10 ∨ q = 11 ∨ q = 12 ∨ q = 13 := by omega
  rcases c with rfl | rfl | rfl | rfl | rfl | rfl | rfl | rfl | rfl | rfl | rfl | rfl | rfl | rfl
  · rw [show (nI 0 &&& 31) = 0 by decide]
    simp
  · rw [show (nI 1 &&& 31) = 1 by decide]
    simp [BitVec.getElem_sshiftRight]
  · rw [show (nI 2 &&& 31) = 2 by decide]
    simp [BitVec.getElem_sshiftRight]
  · rw [show (nI 3 &&& 31) = 3 by decide]
    simp [BitVec.getElem_sshiftRight]
  · rw [show (nI 4 &&& 31) = 4 by decide]
    simp [BitVec.getElem_sshiftRight]
  · rw [show (nI 5 &&& 31) = 5 by decide]
    simp [BitVec.getElem_sshiftRight]
  · rw [show (nI 6 &&& 31) = 6 by decide]
    simp [BitVec.getElem_sshiftRight]
  · rw [show (nI 7 &&& 31) = 7 by decide]
    simp [BitVec.getElem_sshiftRight]
  · rw [show (nI 8 &&& 31) = 8 by decide]
    simp [BitVec.getElem_sshiftRight]
  · rw [show (nI 9 &&& 31) = 9 by decide]
    simp [BitVec.getElem_sshiftRight]
  · rw [show (nI 10 &&& 31) = 10 by decide]
    simp [BitVec.getElem_sshiftRight]
  · rw [show (nI 11 &&& 31) = 11 by decide]
    simp [BitVec.getElem_sshiftRight]
  · rw [show (nI 12 &&& 31) = 12 by decide]
    simp [BitVec.getElem_sshiftRight]
  · rw [show (nI 13 &&& 31) = 13 by decide]
    simp [BitVec.getElem_sshiftRight]
theorem one_q : ∀ e, e < 14 → ∀ q, q < 14 → ((1 : Int32) <<< (nI e &&& 31)).toBitVec.getLsbD q = decide (q = e) := by decide +kernel
theorem bit_or {v : Int32} {e q : Nat} (he : e < 14) (hq : q < 14) : ((v ||| ((1 : Int32) <<< (nI e &&& 31))) >>> (nI q &&& 31)) &&& (1 : Int32) = 0 ↔ (v >>> (nI q &&& 31)) &&& (1 : Int32) = 0 ∧ q ≠ e := by
  rw [and1, and1, sar_q _ hq, sar_q _ hq, Int32.toBitVec_or, BitVec.getLsbD_or, one_q e he q hq]
  by_cases z : q = e
  · rw [decide_eq_true z, Bool.or_true]
    exact ⟨fun y => (by cases y), fun y => absurd z y.2⟩
  · rw [decide_eq_false z, Bool.or_false]
    exact ⟨fun y => ⟨y, z⟩, fun y => y.1⟩
/-- a row of the tours, edges, bans more -/
theorem set_fill {α : Type} {xs : List (Option α)} {k m : Nat} {v : Option α} (hk : k ≤ xs.length) : (xs.take k ++ List.replicate (m + 1) none).set k v = xs.take k ++ v :: List.replicate m none := by
  have hl : (xs.take k).length = k := by rw [List.length_take]; omega
  rw [List.set_append_right _ _ (by omega), hl, Nat.sub_self]
  rfl
theorem g_with {D : gDS} {a j : Nat} {rs : List gRF} {ys : List Int32} (hA : tQ D a rs) (hr : ∀ (k : Nat) (r : gRF), rs[k]? = some r → ∃ i zs, r = rf i ∧ tI D i zs) (hj : tI D j ys) (hn : rs.length ≤ 1000) : ∃ D', F_L_with D (rf a) (rf j) = some (gTop D, D') ∧ tQ D' D.1.length (rs ++ [rf j]) ∧ gE noW D D' ∧ D'.1.length = D.1.length + 1 ∧ gMd 1 (rs.length + 1) D D' := by
  unfold F_L_with
  have w1 : gNwQ D 6 (nI (rs.length + 1)) = some (gNew D (.inr (.inr (.inr (6, List.replicate (rs.length + 1) none)))) (rs.length + 1)) := by
    unfold gNwQ
    rw [gCnt_n (by omega)]
    rfl
  rw [gLen_q hA, Option.bind_some, nI_1, w1, Option.bind_some]
  suffices hs : ∃ t, loop (fun (s3 : Int32 × gDS) =>
  (gLen s3.2 (rf a)).bind fun z4 =>
  if z4 ≤ s3.1 then
   (gLen s3.2 (rf a)).bind fun z5 =>
   (gQst s3.2 (gTop D) z5 (rf j)).bind fun D6 =>
   some (.inr (((gTop D), D6)))
  else
   (gQld s3.2 (rf a) s3.1).bind fun r7 =>
   (gQst s3.2 (gTop D) s3.1 r7).bind fun D8 =>
   some (.inl ((s3.1 + (1 : Int32)), D8))) ((0 : Int32), gNew D (.inr (.inr (.inr (6, List.replicate (rs.length + 1) none)))) (rs.length + 1)) = some t ∧ ∃ D', t = (gTop D, D') ∧ tQ D' D.1.length (rs ++ [rf j]) ∧ gE noW D D' ∧ D'.1.length = D.1.length + 1 ∧ gMd 1 (rs.length + 1) D D' by
    obtain ⟨t, h1, D', rfl, h2⟩ := hs
    exact ⟨D', h1, h2⟩
  refine loop_ind0 (fun k s => k ≤ rs.length ∧ ∃ D', s = (nI k, D') ∧ tQ D' D.1.length (rs.take k ++ List.replicate (rs.length + 1 - k) none) ∧ gE noW D D' ∧ D'.1.length = D.1.length + 1 ∧ gMd 1 (rs.length + 1) D D') _ rs.length ⟨Nat.zero_le _, _, rfl, by rw [List.take_zero, Nat.sub_zero, List.nil_append]; exact gNew_at, gNew_E, gNew_len, gNew_M⟩ (fun k s hI => ?_)
  obtain ⟨hk, A, rfl, a1, a2, a3, a4⟩ := hI
  have hA' := a2.tQ id hA
  dsimp only
  rw [gLen_q hA', Option.bind_some]
  have hlen : (rs.take k ++ List.replicate (rs.length + 1 - k) (none : gRF)).length = rs.length + 1 := by
    rw [List.length_append, List.length_take, List.length_replicate]
    omega
  rcases Nat.lt_or_ge k rs.length with q | q
  · have n1 : ¬ nI rs.length ≤ nI k := fun z => by
      have := (nI_le' (by omega) (by omega)).mp z
      omega
    have hc : rs[k]? = some rs[k] := List.getElem?_eq_getElem q
    obtain ⟨i, zs, e1, e2⟩ := hr k _ hc
    rw [e1] at hc
    have s1 := gQst_t (a := k) (j := i) a1 (by omega) (by omega) (a2.tI id e2)
    rw [show rs.length + 1 - k = (rs.length - k) + 1 by omega, set_fill (by omega)] at s1
    rw [if_neg n1, gQld_t hA' hc (by omega), Option.bind_some, gTop_rf, s1, Option.bind_some, nI_1]
    refine Or.inr ⟨q, _, rfl, q, _, rfl, ?_, a2.on (gSet_E (W := fun l => l = D.1.length) (Or.inl rfl)) (fun l hl => by omega), gSet_len.trans a3, ⟨a4.1, a4.2⟩⟩
    have et : rs.take (k + 1) ++ List.replicate (rs.length + 1 - (k + 1)) (none : gRF) = rs.take k ++ rf i :: List.replicate (rs.length - k) none := by
      rw [List.take_add_one, hc, List.append_assoc, show rs.length + 1 - (k + 1) = rs.length - k by omega]
      rfl
    rw [et]
    exact gSet_at (by omega)
  · obtain rfl : k = rs.length := by omega
    have s1 := gQst_t (a := rs.length) (j := j) a1 (by omega) (by omega) (a2.tI id hj)
    rw [show rs.length + 1 - rs.length = 0 + 1 by omega, set_fill (Nat.le_refl _), List.take_length] at s1
    rw [if_pos (Int32.le_refl _), Option.bind_some, gTop_rf, s1, Option.bind_some]
    exact Or.inl ⟨_, rfl, _, rfl, gSet_at (by omega), a2.on (gSet_E (W := fun l => l = D.1.length) (Or.inl rfl)) (fun l hl => by omega), gSet_len.trans a3, ⟨a4.1, a4.2⟩⟩
/-- a cell of an array just made -/
theorem ia_st {A : gDS} {i k : Nat} {xs : List Int32} {v : Int32} (h : tI A i xs) (hk : k < xs.length) (hk2 : k < 2 ^ 31) : ∃ B, gIst A (rf i) 1 (nI k) v = some B ∧ tI B i (xs.set k v) ∧ gE (fun j => j = i) A B ∧ B.1.length = A.1.length ∧ B.2 = A.2 :=
  ⟨_, gIst_t h hk hk2, gSet_at (tI_lt h), gSet_E (Or.inl rfl), gSet_len, rfl⟩
theorem gAI_t {D : gDS} {n : Nat} : tI (gAI D 1 n) D.1.length (List.replicate n 0) ∧ gE noW D (gAI D 1 n) ∧ (gAI D 1 n).1.length = D.1.length + 1 ∧ gMd 1 n D (gAI D 1 n) := ⟨gNew_at, gNew_E, gNew_len, gNew_M⟩
/-- things made at m or behind -/
def GEm (D : gDS) (m : Nat) (N : NT) (e : Nat) : Prop := m ≤ e ∧ ∃ es : List gRF, tQ D e es ∧ es.length = wE N ∧ ∀ k, k < wE N → ∃ i, m ≤ i ∧ es[k]? = some (rf i) ∧ tI D i (eRow N k)
def GBm (D : gDS) (m : Nat) (N : NT) (b : Nat) (B : List (Nat × Nat × Nat)) : Prop := m ≤ b ∧ ∃ bs : List gRF, tQ D b bs ∧ bs.length = B.length ∧ (∀ (j : Nat) (x : Nat × Nat × Nat), B[j]? = some x → (∃ i, m ≤ i ∧ bs[j]? = some (rf i) ∧ tI D i (bRow x)) ∧ x.1 < 8 ∧ x.2.1 < 14 ∧ x.2.2 < 14) ∧
  ∀ x y, x < 2 * wE N → y < 2 * wE N → wHd N x = wTl N y → (((wBn N x) >>> (nI (y / 2) &&& 31)) &&& (1 : Int32) = 0 ↔ ¬ (wHd N x, x / 2, y / 2) ∈ B)
theorem GEm.GEd {D : gDS} {m : Nat} {N : NT} {e : Nat} (h : GEm D m N e) : GEd D N e := by
  obtain ⟨h0, es, h1, h2, h3⟩ := h
  refine ⟨es, h1, h2, fun k hk => ?_⟩
  obtain ⟨i, -, h4, h5⟩ := h3 k hk
  exact ⟨i, h4, h5⟩
theorem GBm.GBn {D : gDS} {m : Nat} {N : NT} {b : Nat} {B : List (Nat × Nat × Nat)} (h : GBm D m N b B) (hl : B.length ≤ 1000) : GBn D N b := by
  obtain ⟨h0, bs, h1, h2, h3, h4⟩ := h
  refine ⟨bs, B, h1, h2, hl, fun j x hx => ?_, h4⟩
  obtain ⟨⟨i, -, h5, h6⟩, h7⟩ := h3 j x hx
  exact ⟨⟨i, h5, h6⟩, h7⟩
theorem GEm.ext {W : Nat → Prop} {A B : gDS} {m : Nat} {N : NT} {e : Nat} (h : GEm A m N e) (x : gE W A B) (hw : ∀ i, i < A.1.length → W i → i < m ∨ kt A i = 108) : GEm B m N e := by
  obtain ⟨h0, es, h1, h2, h3⟩ := h
  refine ⟨h0, es, x.tQ (fun q => ?_) h1, h2, fun k hk => ?_⟩
  · rcases hw e (tQ_lt h1) q with z | z
    · omega
    · rw [h1.tg] at z
      omega
  · obtain ⟨i, h4, h5, h6⟩ := h3 k hk
    refine ⟨i, h4, h5, x.tI (fun q => ?_) h6⟩
    rcases hw i (tI_lt h6) q with z | z
    · omega
    · rw [h6.tg] at z
      omega
theorem GBm.ext {W : Nat → Prop} {A C : gDS} {m : Nat} {N : NT} {b : Nat} {B : List (Nat × Nat × Nat)} (h : GBm A m N b B) (x : gE W A C) (hw : ∀ i, i < A.1.length → W i → i < m ∨ kt A i = 108) : GBm C m N b B := by
  obtain ⟨h0, bs, h1, h2, h3, h4⟩ := h
  refine ⟨h0, bs, x.tQ (fun q => ?_) h1, h2, fun j y hy => ?_, h4⟩
  · rcases hw b (tQ_lt h1) q with z | z
    · omega
    · rw [h1.tg] at z
      omega
  · obtain ⟨⟨i, h5, h6, h7⟩, h8⟩ := h3 j y hy
    refine ⟨⟨i, h5, h6, x.tI (fun q => ?_) h7⟩, h8⟩
    rcases hw i (tI_lt h7) q with z | z
    · omega
    · rw [h7.tg] at z
      omega
theorem goodF_nums : ∀ (vs : List Nat) (k : Nat), (∀ v ∈ vs, v < 10000) → goodF k (numI vs ++ [(0, 59)])
  | [], k, _ => ⟨Or.inl ⟨rfl, by show 59 < 128; omega, rfl, rfl, rfl⟩, fun z => by omega, trivial⟩
  | v :: vs, k, h => ⟨Or.inr (Or.inr (Or.inr rfl)), fun z => by have : k = 3 := z.1; omega, Or.inr (Or.inl ⟨rfl, h v List.mem_cons_self⟩), fun z => by have : (3 : Nat) = 1 := z.1; omega, goodF_nums vs 1 (fun w hw => h w (List.mem_cons_of_mem _ hw))⟩
theorem lastK_nums : ∀ (vs : List Nat) (k : Nat), lastK k (numI vs ++ [(0, 59)]) = 0
  | [], _ => rfl
  | v :: vs, _ => lastK_nums vs 1
