/-! THE PURE MATHEMATICS: loops and numbers; the law's loop out of its turns -/
theorem loop_ind {σ τ : Type} {body : σ → Option (σ ⊕ τ)} {I : Nat → σ → Prop} {P : τ → Prop} (N : Nat)
    (step : ∀ k s, I k s → (∃ t, body s = some (.inr t) ∧ P t) ∨ (k < N ∧ ∃ s', body s = some (.inl s') ∧ I (k + 1) s')) :
    ∀ (m k : Nat) (s : σ), N - k ≤ m → I k s → ∃ t, loop body s = some t ∧ P t := by
  intro m
  induction m with
  | zero =>
    intro k s hm hI
    rcases step k s hI with ⟨t, h1, h2⟩ | ⟨h1, -⟩
    · exact ⟨t, by rw [loop_eq, h1]; rfl, h2⟩
    · omega
  | succ m ih =>
    intro k s hm hI
    rcases step k s hI with ⟨t, h1, h2⟩ | ⟨h1, s', h2, h3⟩
    · exact ⟨t, by rw [loop_eq, h1]; rfl, h2⟩
    · obtain ⟨t, h4, h5⟩ := ih (k + 1) s' (by omega) h3
      exact ⟨t, by rw [loop_eq, h2]; exact h4, h5⟩
theorem loop_ind0 {σ τ : Type} {body : σ → Option (σ ⊕ τ)} (I : Nat → σ → Prop) (P : τ → Prop) (N : Nat) {s0 : σ} (h0 : I 0 s0)
    (step : ∀ k s, I k s → (∃ t, body s = some (.inr t) ∧ P t) ∨ (k < N ∧ ∃ s', body s = some (.inl s') ∧ I (k + 1) s')) : ∃ t, loop body s0 = some t ∧ P t :=
  loop_ind N step N 0 s0 (Nat.sub_le _ _) h0
/-- a loop from k = 0 to N, whose state at k is S k -/
theorem loop_to {σ τ : Type} {body : σ → Option (σ ⊕ τ)} (S : Nat → σ) (N : Nat) {s0 : σ} {t : τ} (h0 : s0 = S 0) (hs : ∀ k, k < N → body (S k) = some (.inl (S (k + 1)))) (he : body (S N) = some (.inr t)) : loop body s0 = some t := by
  obtain ⟨t', h1, h2⟩ := loop_ind0 (body := body) (fun k s => k ≤ N ∧ s = S k) (fun t' => t' = t) N (s0 := s0) ⟨Nat.zero_le _, h0⟩ (fun k s hI => by
    obtain ⟨h1, rfl⟩ := hI
    rcases Nat.lt_or_ge k N with q | q
    · exact Or.inr ⟨q, _, hs k q, q, rfl⟩
    · obtain rfl : k = N := by omega
      exact Or.inl ⟨t, he, rfl⟩)
  rw [h1, h2]
/-- signed numbers -/
def zi (z : Int) : Int32 := Int32.ofInt z
theorem nI_zi (n : Nat) : nI n = zi (n : Int) := Int32.ofInt_eq_ofNat.symm
theorem zi_toInt {a : Int} (h : -2147483648 ≤ a ∧ a < 2147483648) : (zi a).toInt = a := Int32.toInt_ofInt_of_le h.1 h.2
theorem zi_add (a b : Int) : zi a + zi b = zi (a + b) := (Int32.ofInt_add a b).symm
theorem zi_sub (a b : Int) : zi a - zi b = zi (a - b) := (Int32.ofInt_sub a b).symm
theorem zi_mul (a b : Int) : zi a * zi b = zi (a * b) := (Int32.ofInt_mul a b).symm
theorem zi_neg (a : Int) : -zi a = zi (-a) := (Int32.ofInt_neg a).symm
theorem zi_eq {a b : Int} (ha : -2147483648 ≤ a ∧ a < 2147483648) (hb : -2147483648 ≤ b ∧ b < 2147483648) : zi a = zi b ↔ a = b := by
  rw [← Int32.toInt_inj, zi_toInt ha, zi_toInt hb]
theorem zi_le {a b : Int} (ha : -2147483648 ≤ a ∧ a < 2147483648) (hb : -2147483648 ≤ b ∧ b < 2147483648) : zi a ≤ zi b ↔ a ≤ b := by
  rw [Int32.le_iff_toInt_le, zi_toInt ha, zi_toInt hb]
theorem zi_lt {a b : Int} (ha : -2147483648 ≤ a ∧ a < 2147483648) (hb : -2147483648 ≤ b ∧ b < 2147483648) : zi a < zi b ↔ a < b := by
  rw [Int32.lt_iff_toInt_lt, zi_toInt ha, zi_toInt hb]
theorem zi_of (x : Int32) : x = zi x.toInt := (Int32.ofInt_toInt x).symm
theorem nI_sub {a b : Nat} (h : b ≤ a) : nI a - nI b = nI (a - b) := (Int32.ofNat_sub a b h).symm
theorem nI_mul (a b : Nat) : nI a * nI b = nI (a * b) := (Int32.ofNat_mul a b).symm
theorem nI_div {a b : Nat} (ha : a < 2 ^ 31) (hb : b < 2 ^ 31) : nI a / nI b = nI (a / b) := (Int32.ofNat_div ha hb).symm
theorem nI_mod {a b : Nat} (ha : a < 2 ^ 31) (hb : b < 2 ^ 31) (h0 : 0 < b) : nI a - nI a / nI b * nI b = nI (a % b) := by
  rw [nI_div ha hb, nI_mul, nI_sub (Nat.div_mul_le_self a b)]
  congr 1
  have := Nat.div_add_mod a b
  rw [Nat.mul_comm] at this
  omega
theorem nI_inb {a n : Nat} (ha : a < 2 ^ 31) : inb (nI a) n = decide (a < n) := by
  unfold inb
  rw [nI_clamp ha]
  have : decide ((0 : Int32) ≤ nI a) = true := decide_eq_true (nI_pos' ha)
  rw [this, Bool.true_and]
theorem at_in {n : Nat} {h : PH} {r a : Nat} (ha : a < 2 ^ 31) (hn : a < n) : F_X7_at n h r (nI a) = h.1 r a := by
  unfold F_X7_at
  rw [nI_inb ha, if_pos (decide_eq_true hn), nI_clamp ha]
theorem put_in {n : Nat} {h : PH} {r a : Nat} {v : Int32} (ha : a < 2 ^ 31) (hn : a < n) : F_X7_put n h r (nI a) v = pu h r a v := by
  unfold F_X7_put
  rw [nI_inb ha, if_pos (decide_eq_true hn), nI_clamp ha]
theorem ald_in {n : Nat} {h : PH} {r a : Nat} (ha : a < 2 ^ 31) (hn : a < n) : ald n h r (nI a) = some (h.1 r a) := by
  unfold ald
  rw [nI_inb ha, if_pos (decide_eq_true hn), nI_clamp ha]
theorem ldl_in {n : Nat} {h : PH} {r a : Nat} (ha : a < 2 ^ 31) (hn : a < n) : ldl n h r (nI a) = some (h.2 r a) := by
  unfold ldl
  rw [nI_inb ha, if_pos (decide_eq_true hn), nI_clamp ha]
theorem ast_in {n : Nat} {h : PH} {r a : Nat} {v : Int32} (ha : a < 2 ^ 31) (hn : a < n) : ast n h r (nI a) v = some (pu h r a v) := by
  unfold ast
  rw [nI_inb ha, if_pos (decide_eq_true hn), nI_clamp ha]
theorem asl_in {n : Nat} {h : PH} {r a : Nat} {v : Int64} (ha : a < 2 ^ 31) (hn : a < n) : asl n h r (nI a) v = some (pul h r a v) := by
  unfold asl
  rw [nI_inb ha, if_pos (decide_eq_true hn), nI_clamp ha]
theorem aidx_in {n a : Nat} (ha : a < 2 ^ 31) (hn : a < n) : aidx n (nI a) = some a := by
  unfold aidx
  rw [nI_inb ha, if_pos (decide_eq_true hn), nI_clamp ha]
theorem pu_get (h : PH) (i j : Nat) (v : Int32) (a k : Nat) : (pu h i j v).1 a k = if a = i ∧ k = j then v else h.1 a k := by
  unfold pu
  by_cases q : a = i
  · by_cases q2 : k = j
    · simp [q, q2]
    · simp [q, q2]
  · simp [q]
theorem pu_get2 (h : PH) (i j : Nat) (v : Int32) : (pu h i j v).2 = h.2 := rfl
theorem pul_get1 (h : PH) (i j : Nat) (v : Int64) : (pul h i j v).1 = h.1 := rfl
theorem pul_get (h : PH) (i j : Nat) (v : Int64) (a k : Nat) : (pul h i j v).2 a k = if a = i ∧ k = j then v else h.2 a k := by
  unfold pul
  by_cases q : a = i
  · by_cases q2 : k = j
    · simp [q, q2]
    · simp [q, q2]
  · simp [q]
theorem pcpy_get (h : PH) (src dst n a k : Nat) : (pcpy h src 0 dst 0 n).1 a k = if a = dst ∧ k < n then h.1 src k else h.1 a k := by
  unfold pcpy
  by_cases q : a = dst
  · by_cases q2 : k < n
    · simp [q, q2]
    · simp [q, q2]
  · simp [q]
/-- two heaps agree but for the things that S names -/
def Fr (S : Nat → Prop) (h h' : PH) : Prop := ∀ a, ¬ S a → h'.1 a = h.1 a ∧ h'.2 a = h.2 a
theorem Fr.refl {S : Nat → Prop} (h : PH) : Fr S h h := fun _ _ => ⟨rfl, rfl⟩
theorem Fr.trans {S : Nat → Prop} {h1 h2 h3 : PH} (a : Fr S h1 h2) (b : Fr S h2 h3) : Fr S h1 h3 := fun i hi => ⟨(b i hi).1.trans (a i hi).1, (b i hi).2.trans (a i hi).2⟩
theorem Fr.mono {S S' : Nat → Prop} {h1 h2 : PH} (a : Fr S h1 h2) (hs : ∀ i, S i → S' i) : Fr S' h1 h2 := fun i hi => a i (fun q => hi (hs i q))
theorem Fr.pu {S : Nat → Prop} {h : PH} {i j : Nat} {v : Int32} (hi : S i) : Fr S h (pu h i j v) := fun a ha => pu_o h i j v a (fun q => ha (by rw [q]; exact hi))
theorem Fr.pul {S : Nat → Prop} {h : PH} {i j : Nat} {v : Int64} (hi : S i) : Fr S h (pul h i j v) := fun a ha => pul_o h i j v a (fun q => ha (by rw [q]; exact hi))
theorem Fr.cpy {S : Nat → Prop} {h : PH} {src dst n : Nat} (hi : S dst) : Fr S h (pcpy h src 0 dst 0 n) := fun a ha => by
  unfold pcpy
  have : a ≠ dst := fun q => ha (by rw [q]; exact hi)
  simp [this]
/-- a script's int -/
theorem sc_ald {L j : Nat} {xs : Nat → Int32} {h : PH} (hs : scr L xs h) (hL : L ≤ 3072) (hj : j < L) : ald (h.1 168 0).toNatClampNeg h 167 (nI j) = some (xs j) := by
  rw [hs.2, nI_clamp (by omega), ald_in (by omega) hj, hs.1]
theorem scr_fr {S : Nat → Prop} {L : Nat} {xs : Nat → Int32} {h h' : PH} (hs : scr L xs h) (hf : Fr S h h') (h1 : ¬ S 167) (h2 : ¬ S 168) : scr L xs h' := scr_of hs (hf 167 h1).1 (hf 168 h2).1
