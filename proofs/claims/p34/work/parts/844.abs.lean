/-! THE DATA IN PLAIN NUMBERS, and how each side holds them -/
theorem i0 : (0 : Int32) = nI 0 := rfl
theorem i1 : (1 : Int32) = nI 1 := rfl
theorem i2 : (2 : Int32) = nI 2 := rfl
theorem i3 : (3 : Int32) = nI 3 := rfl
theorem i4 : (4 : Int32) = nI 4 := rfl
theorem i5 : (5 : Int32) = nI 5 := rfl
theorem i6 : (6 : Int32) = nI 6 := rfl
theorem i7 : (7 : Int32) = nI 7 := rfl
theorem i8 : (8 : Int32) = nI 8 := rfl
theorem i10 : (10 : Int32) = nI 10 := rfl
theorem i14 : (14 : Int32) = nI 14 := rfl
theorem i16 : (16 : Int32) = nI 16 := rfl
theorem i28 : (28 : Int32) = nI 28 := rfl
theorem i77 : (77 : Int32) = nI 77 := rfl
theorem i189 : (189 : Int32) = nI 189 := rfl
theorem i192 : (192 : Int32) = nI 192 := rfl
theorem i256 : (256 : Int32) = nI 256 := rfl
theorem i1000 : (1000 : Int32) = nI 1000 := rfl
theorem i1556 : (1556 : Int32) = nI 1556 := rfl
theorem iK : (1000000 : Int32) = nI 1000000 := rfl
theorem iM : (100000000 : Int32) = nI 100000000 := rfl
abbrev NT : Type := (Nat → Nat → Nat) × (Nat → Int32)
def wN (N : NT) : Nat := N.1 0 0
def wC (N : NT) : Nat := N.1 0 1
def wE (N : NT) : Nat := N.1 0 2
def wD (N : NT) : Nat := N.1 0 3
def wTl (N : NT) (a : Nat) : Nat := N.1 1 a
def wCo (N : NT) (a : Nat) : Nat := N.1 2 a
def wDe (N : NT) (e : Nat) : Nat := N.1 3 e
def wDp (N : NT) (d : Nat) : Nat := N.1 5 d
def wSv (N : NT) (a : Nat) : Nat := N.1 6 a
def wBn (N : NT) (a : Nat) : Int32 := N.2 a
/-- the other arc of the edge -/
def wFl (a : Nat) : Nat := if a % 2 = 0 then a + 1 else a - 1
def wHd (N : NT) (a : Nat) : Nat := wTl N (wFl a)
theorem wFl_lt {a E : Nat} (h : a < 2 * E) : wFl a < 2 * E := by unfold wFl; split <;> omega
theorem wFl_fl (a : Nat) : wFl (wFl a) = a := by unfold wFl; split <;> split <;> omega
theorem wFl_div (a : Nat) : wFl a / 2 = a / 2 := by unfold wFl; split <;> omega
theorem wFl_xor {a : Nat} (h : a < 28) : nI a ^^^ (1 : Int32) = nI (wFl a) := by
  have key : ∀ a, a < 28 → nI a ^^^ (1 : Int32) = nI (wFl a) := by decide +kernel
  exact key a h
/-- y may follow x -/
def wFol (N : NT) (x y : Nat) : Bool := decide (wHd N x = wTl N y) && decide (((wBn N x) >>> (nI (y / 2) &&& 31)) &&& (1 : Int32) = 0)
/-- what a network is -/
def WN (N : NT) : Prop := wN N ≤ 8 ∧ wC N ≤ 999 ∧ wE N ≤ 14 ∧ wD N ≤ 3 ∧ (∀ a, a < 2 * wE N → wTl N a < wN N ∧ 1 ≤ wCo N a ∧ wCo N a ≤ 99 ∧ wSv N a ≤ 9999 ∧ wHd N a ≠ wTl N a) ∧ (∀ e, e < wE N → wDe N e ≤ 99) ∧ (∀ d, d < wD N → wDp N d < wN N)
/-- the class holds it at thing o -/
def CN (h : PH) (o : Nat) (N : NT) : Prop := h.1 o 0 = nI (wN N) ∧ h.1 o 1 = nI (wC N) ∧ h.1 o 2 = nI (wE N) ∧ h.1 o 3 = nI (wD N) ∧
  (∀ a, a < 2 * wE N → h.1 (o + 1) a = nI (wTl N a) ∧ h.1 (o + 2) a = nI (wCo N a) ∧ h.1 (o + 3) a = nI (wSv N a) ∧ h.1 (o + 4) a = wBn N a) ∧ (∀ e, e < wE N → h.1 (o + 5) e = nI (wDe N e)) ∧ (∀ d, d < wD N → h.1 (o + 6) d = nI (wDp N d))
theorem CN.same {h h' : PH} {o : Nat} {N : NT} (c : CN h o N) (e : ∀ j, j < 7 → h'.1 (o + j) = h.1 (o + j)) : CN h' o N := by
  obtain ⟨c1, c2, c3, c4, c5, c6, c7⟩ := c
  have e0 : h'.1 o = h.1 o := e 0 (by omega)
  refine ⟨by rw [e0]; exact c1, by rw [e0]; exact c2, by rw [e0]; exact c3, by rw [e0]; exact c4, fun a ha => ?_, fun a ha => ?_, fun a ha => ?_⟩
  · rw [e 1 (by omega), e 2 (by omega), e 3 (by omega), e 4 (by omega)]
    exact c5 a ha
  · rw [e 5 (by omega)]
    exact c6 a ha
  · rw [e 6 (by omega)]
    exact c7 a ha
/-- least ways: none where there is no way -/
def om : Option Nat → Option Nat → Option Nat
  | none, b => b
  | some a, none => some a
  | some a, some b => some (min a b)
def oa : Option Nat → Option Nat → Option Nat
  | some a, some b => some (a + b)
  | _, _ => none
/-- a number for none -/
def en (K : Nat) : Option Nat → Nat
  | some v => v
  | none => K
theorem om_none (a : Option Nat) : om a none = a := by cases a <;> rfl
theorem oa_none (a : Option Nat) : oa a none = none := by cases a <;> rfl
theorem en_min3 {K c : Nat} {o a b : Option Nat} (ho : ∀ v, o = some v → v ≤ K) (hab : ∀ u v, a = some u → b = some v → u + c + v ≤ K) : min (en K o) (en K a + c + en K b) = en K (om o (oa (oa a (some c)) b)) := by
  cases o with
  | none =>
    cases a with
    | none => cases b <;> (simp only [en, om, oa]; omega)
    | some u => cases b with
      | none => simp only [en, om, oa]; omega
      | some v => have := hab u v rfl rfl; simp only [en, om, oa]; omega
  | some w =>
    have hw := ho w rfl
    cases a with
    | none => cases b <;> (simp only [en, om, oa]; omega)
    | some u => cases b with
      | none => simp only [en, om, oa]; omega
      | some v => simp only [en, om, oa]
theorem en_min2 {K c : Nat} {o b : Option Nat} (ho : ∀ v, o = some v → v ≤ K) (hb : ∀ v, b = some v → c + v ≤ K) : min (en K o) (c + en K b) = en K (om o (oa (some c) b)) := by
  cases o with
  | none =>
    cases b with
    | none => simp only [en, om, oa]; omega
    | some v => have := hb v rfl; simp only [en, om, oa]; omega
  | some w =>
    have hw := ho w rfl
    cases b with
    | none => simp only [en, om, oa]; omega
    | some v => simp only [en, om, oa]
theorem oa_comm (a b : Option Nat) : oa a b = oa b a := by
  cases a <;> cases b <;> simp only [oa]
  rw [Nat.add_comm]
/-- ways with arcs below k between -/
def fw (N : NT) : Nat → Nat → Nat → Option Nat
  | 0, x, y => if wFol N x y then some 0 else none
  | k + 1, x, y => om (fw N k x y) (oa (oa (fw N k x k) (some (wCo N k))) (fw N k k y))
def wDh (N : NT) (x y : Nat) : Option Nat := fw N (2 * wE N) x y
/-- the least over arcs below k -/
def fapp (N : NT) (v x : Nat) : Nat → Option Nat
  | 0 => none
  | k + 1 => if wTl N k = v then om (fapp N v x k) (oa (some (wCo N k)) (wDh N k x)) else fapp N v x k
def wApp (N : NT) (v x : Nat) : Option Nat := if wTl N x = v then some 0 else fapp N v x (2 * wE N)
def fret (N : NT) (x v : Nat) : Nat → Option Nat
  | 0 => none
  | k + 1 => if wHd N k = v then om (fret N x v k) (oa (some (wCo N k)) (wDh N x k)) else fret N x v k
def wRet (N : NT) (x v : Nat) : Option Nat := if wHd N x = v then some 0 else fret N x v (2 * wE N)
def fdst (N : NT) (u v : Nat) : Nat → Option Nat
  | 0 => none
  | k + 1 => if wTl N k = u then om (fdst N u v k) (oa (some (wCo N k)) (wRet N k v)) else fdst N u v k
def wDst (N : NT) (u v : Nat) : Option Nat := if u = v then some 0 else fdst N u v (2 * wE N)
/-! a way's cost is small: no arc twice between -/
def cnt (S : Nat → Bool) : Nat → Nat
  | 0 => 0
  | k + 1 => cnt S k + (if S k then 1 else 0)
theorem cnt_le (S : Nat → Bool) : ∀ k, cnt S k ≤ k
  | 0 => Nat.le_refl 0
  | k + 1 => by
    have := cnt_le S k
    unfold cnt
    split <;> omega
theorem cnt_s (S : Nat → Bool) (k : Nat) : cnt S (k + 1) = cnt S k + (if S k then 1 else 0) := rfl
theorem cnt_ag {S S' : Nat → Bool} : ∀ {k : Nat}, (∀ w, w < k → S w = S' w) → cnt S k = cnt S' k
  | 0, _ => rfl
  | k + 1, h => by
    unfold cnt
    rw [cnt_ag (fun w hw => h w (by omega)), h k (by omega)]
theorem cnt_or {S1 S2 : Nat → Bool} : ∀ {k : Nat}, (∀ w, w < k → ¬ (S1 w = true ∧ S2 w = true)) → cnt (fun w => S1 w || S2 w) k = cnt S1 k + cnt S2 k
  | 0, _ => rfl
  | k + 1, h => by
    have h1 := h k (by omega)
    have h2 := cnt_or (k := k) (fun w hw => h w (by omega))
    unfold cnt
    rw [h2]
    cases q1 : S1 k <;> cases q2 : S2 k <;> simp_all <;> omega
theorem fw_some {N : NT} {k x y : Nat} : (fw N (k + 1) x y).isSome = true ↔ (fw N k x y).isSome = true ∨ ((fw N k x k).isSome = true ∧ (fw N k k y).isSome = true) := by
  show (om (fw N k x y) (oa (oa (fw N k x k) (some (wCo N k))) (fw N k k y))).isSome = true ↔ _
  cases fw N k x y <;> cases fw N k x k <;> cases fw N k k y <;> simp [om, oa]
theorem fw_clo {N : NT} : ∀ (k x y w : Nat), w < k → (fw N k x w).isSome = true → (fw N k w y).isSome = true → (fw N k x y).isSome = true
  | 0, _, _, _, h, _, _ => absurd h (Nat.not_lt_zero _)
  | k + 1, x, y, w, h, h1, h2 => by
    rw [fw_some] at h1 h2 ⊢
    have IH := fw_clo (N := N) k
    rcases Nat.lt_or_ge w k with q | q
    · rcases h1 with h1 | ⟨h1, h3⟩ <;> rcases h2 with h2 | ⟨h2, h4⟩
      · exact Or.inl (IH x y w q h1 h2)
      · exact Or.inr ⟨IH x k w q h1 h2, h4⟩
      · exact Or.inr ⟨h1, IH k y w q h3 h2⟩
      · exact Or.inr ⟨h1, h4⟩
    · obtain rfl : w = k := by omega
      refine Or.inr ⟨?_, ?_⟩
      · rcases h1 with h1 | ⟨h1, -⟩ <;> exact h1
      · rcases h2 with h2 | ⟨-, h2⟩ <;> exact h2
theorem fw_set {N : NT} (hN : WN N) : ∀ (k : Nat), k ≤ 2 * wE N → ∀ (x y v : Nat), fw N k x y = some v → ∃ S : Nat → Bool, v ≤ 99 * cnt S k ∧ ∀ w, S w = true → w < k ∧ (fw N k x w).isSome = true ∧ (fw N k w y).isSome = true
  | 0, _, x, y, v, h => by
    refine ⟨fun _ => false, ?_, fun w hw => by cases hw⟩
    have h1 : (if wFol N x y then some 0 else none) = some v := h
    split at h1
    · cases h1; exact Nat.zero_le _
    · cases h1
  | k + 1, hk, x, y, v, h => by
    have IH := fw_set hN k (by omega)
    have hc : wCo N k ≤ 99 := (hN.2.2.2.2.1 k (by omega)).2.2.1
    have h1 : om (fw N k x y) (oa (oa (fw N k x k) (some (wCo N k))) (fw N k k y)) = some v := h
    have mono : ∀ p q, (fw N k p q).isSome = true → (fw N (k + 1) p q).isSome = true := fun p q z => fw_some.mpr (Or.inl z)
    cases hxy : fw N k x y with
    | some u =>
      obtain ⟨S, s1, s2⟩ := IH x y u hxy
      refine ⟨fun w => decide (w < k) && S w, ?_, fun w hw => ?_⟩
      · have e1 : cnt (fun w => decide (w < k) && S w) (k + 1) = cnt S k := by
          rw [cnt_s, cnt_ag (S := fun w => decide (w < k) && S w) (S' := S) (fun w hw => by simp [hw])]
          simp
        rw [e1]
        have : v ≤ u := by
          rw [hxy] at h1
          cases hq : oa (oa (fw N k x k) (some (wCo N k))) (fw N k k y) with
          | none => rw [hq] at h1; cases h1; exact Nat.le_refl _
          | some z => rw [hq] at h1; cases h1; exact Nat.min_le_left _ _
        omega
      · simp only [Bool.and_eq_true, decide_eq_true_eq] at hw
        obtain ⟨a1, a2, a3⟩ := s2 w hw.2
        exact ⟨by omega, mono _ _ a2, mono _ _ a3⟩
    | none =>
      rw [hxy] at h1
      cases hxk : fw N k x k with
      | none => rw [hxk] at h1; cases h1
      | some a =>
        cases hky : fw N k k y with
        | none => rw [hxk, hky] at h1; cases h1
        | some b =>
          rw [hxk, hky] at h1
          have hv : a + wCo N k + b = v := Option.some.inj h1
          obtain ⟨S1, p1, p2⟩ := IH x k a hxk
          obtain ⟨S2, q1, q2⟩ := IH k y b hky
          have dis : ∀ w, w < k → ¬ (S1 w = true ∧ S2 w = true) := fun w hw ⟨z1, z2⟩ => by
            have := fw_clo k x y w hw (p2 w z1).2.1 (q2 w z2).2.2
            rw [hxy] at this
            cases this
          refine ⟨fun w => decide (w = k) || (S1 w || S2 w), ?_, fun w hw => ?_⟩
          · have e1 : cnt (fun w => decide (w = k) || (S1 w || S2 w)) (k + 1) = cnt S1 k + cnt S2 k + 1 := by
              rw [cnt_s, cnt_ag (S := fun w => decide (w = k) || (S1 w || S2 w)) (S' := fun w => S1 w || S2 w) (fun w hw => by simp [Nat.ne_of_lt hw]), cnt_or dis]
              simp
            rw [e1]
            omega
          · have xk : (fw N k x k).isSome = true := by rw [hxk]; rfl
            have ky : (fw N k k y).isSome = true := by rw [hky]; rfl
            simp only [Bool.or_eq_true, decide_eq_true_eq] at hw
            rcases hw with rfl | hw | hw
            · exact ⟨by omega, mono _ _ xk, mono _ _ ky⟩
            · obtain ⟨a1, a2, a3⟩ := p2 w hw
              exact ⟨by omega, mono _ _ a2, fw_some.mpr (Or.inr ⟨a3, ky⟩)⟩
            · obtain ⟨a1, a2, a3⟩ := q2 w hw
              exact ⟨by omega, fw_some.mpr (Or.inr ⟨xk, a2⟩), mono _ _ a3⟩
theorem fw_le {N : NT} (hN : WN N) {k x y v : Nat} (hk : k ≤ 2 * wE N) (h : fw N k x y = some v) : v ≤ 2772 := by
  obtain ⟨S, s1, -⟩ := fw_set hN k hk x y v h
  have := cnt_le S k
  have := hN.2.2.1
  omega
theorem wDh_le {N : NT} (hN : WN N) {x y v : Nat} (h : wDh N x y = some v) : v ≤ 2772 := fw_le hN (Nat.le_refl _) h
theorem fw_col {N : NT} (k x : Nat) : fw N (k + 1) x k = fw N k x k := by
  show om (fw N k x k) (oa (oa (fw N k x k) (some (wCo N k))) (fw N k k k)) = fw N k x k
  cases h1 : fw N k x k with
  | none => rfl
  | some a => cases fw N k k k with
    | none => rfl
    | some b => simp only [om, oa]; congr 1; omega
theorem fw_row {N : NT} (k y : Nat) : fw N (k + 1) k y = fw N k k y := by
  show om (fw N k k y) (oa (oa (fw N k k k) (some (wCo N k))) (fw N k k y)) = fw N k k y
  cases h1 : fw N k k y with
  | none => cases fw N k k k <;> rfl
  | some a => cases fw N k k k with
    | none => rfl
    | some b => simp only [om, oa]; congr 1; omega
theorem om_le {a b : Option Nat} {B v : Nat} (ha : ∀ u, a = some u → u ≤ B) (hb : ∀ u, b = some u → u ≤ B) (h : om a b = some v) : v ≤ B := by
  cases a with
  | none => exact hb v h
  | some u => cases b with
    | none => exact ha v h
    | some w => cases h; have := ha u rfl; omega
theorem oa_le {a : Nat} {b : Option Nat} {B v : Nat} (hb : ∀ u, b = some u → a + u ≤ B) (h : oa (some a) b = some v) : v ≤ B := by
  cases b with
  | none => cases h
  | some w => cases h; exact hb w rfl
theorem fapp_le {N : NT} (hN : WN N) {v x : Nat} : ∀ (k w : Nat), k ≤ 2 * wE N → fapp N v x k = some w → w ≤ 2871
  | 0, _, _, h => by cases h
  | k + 1, w, hk, h => by
    have hc : wCo N k ≤ 99 := (hN.2.2.2.2.1 k (by omega)).2.2.1
    unfold fapp at h
    split at h
    · exact om_le (fun u hu => fapp_le hN k u (by omega) hu) (fun u hu => oa_le (fun z hz => by have := wDh_le hN hz; omega) hu) h
    · exact fapp_le hN k w (by omega) h
theorem wApp_le {N : NT} (hN : WN N) {v x w : Nat} (h : wApp N v x = some w) : w ≤ 2871 := by
  unfold wApp at h
  split at h
  · cases h; omega
  · exact fapp_le hN _ _ (Nat.le_refl _) h
theorem fret_le {N : NT} (hN : WN N) {v x : Nat} : ∀ (k w : Nat), k ≤ 2 * wE N → fret N x v k = some w → w ≤ 2871
  | 0, _, _, h => by cases h
  | k + 1, w, hk, h => by
    have hc : wCo N k ≤ 99 := (hN.2.2.2.2.1 k (by omega)).2.2.1
    unfold fret at h
    split at h
    · exact om_le (fun u hu => fret_le hN k u (by omega) hu) (fun u hu => oa_le (fun z hz => by have := wDh_le hN hz; omega) hu) h
    · exact fret_le hN k w (by omega) h
theorem wRet_le {N : NT} (hN : WN N) {v x w : Nat} (h : wRet N x v = some w) : w ≤ 2871 := by
  unfold wRet at h
  split at h
  · cases h; omega
  · exact fret_le hN _ _ (Nat.le_refl _) h
theorem fdst_le {N : NT} (hN : WN N) {u v : Nat} : ∀ (k w : Nat), k ≤ 2 * wE N → fdst N u v k = some w → w ≤ 2970
  | 0, _, _, h => by cases h
  | k + 1, w, hk, h => by
    have hc : wCo N k ≤ 99 := (hN.2.2.2.2.1 k (by omega)).2.2.1
    unfold fdst at h
    split at h
    · exact om_le (fun u hu => fdst_le hN k u (by omega) hu) (fun u hu => oa_le (fun z hz => by have := wRet_le hN hz; omega) hu) h
    · exact fdst_le hN k w (by omega) h
theorem wDst_le {N : NT} (hN : WN N) {u v w : Nat} (h : wDst N u v = some w) : w ≤ 2970 := by
  unfold wDst at h
  split at h
  · cases h; omega
  · exact fdst_le hN _ _ (Nat.le_refl _) h
