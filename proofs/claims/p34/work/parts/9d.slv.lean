/-! THE CITY'S SEARCH FOR WAYS -/
def rw8 (n : Nat) (f : Nat → Nat) : List Int32 := (List.range n).map fun y => nI (f y)
theorem rw8_len {n : Nat} {f : Nat → Nat} : (rw8 n f).length = n := by unfold rw8; rw [List.length_map, List.length_range]
theorem rw8_get {n y : Nat} {f : Nat → Nat} (h : y < n) : (rw8 n f).getD y 0 = nI (f y) := by
  unfold rw8
  rw [List.getD_eq_getElem?_getD, List.getElem?_map, List.getElem?_range h]
  rfl
def up8 (f : Nat → Nat) (y v : Nat) : Nat → Nat := fun z => if z = y then v else f z
theorem rw8_set {n y v : Nat} {f : Nat → Nat} : (rw8 n f).set y (nI v) = rw8 n (up8 f y v) := by
  apply List.ext_getElem?
  intro z
  unfold rw8 up8
  rw [List.getElem?_set, List.getElem?_map, List.getElem?_map, List.length_map, List.length_range]
  by_cases e : y = z
  · subst e
    rw [if_pos rfl]
    by_cases q : y < n
    · rw [if_pos q, List.getElem?_range q]
      show some (nI v) = some (nI (if y = y then v else f y))
      rw [if_pos rfl]
    · rw [if_neg q, List.getElem?_eq_none (by rw [List.length_range]; omega)]
      rfl
  · rw [if_neg e]
    by_cases q : z < n
    · rw [List.getElem?_range q]
      show some (nI (f z)) = some (nI (if z = y then v else f z))
      rw [if_neg (fun h => e h.symm)]
    · rw [List.getElem?_eq_none (by rw [List.length_range]; omega)]
      rfl
/-- a square of numbers at gp, its rows behind it -/
def GM (D : gDS) (gp n : Nat) (R : Nat → Nat → Nat) : Prop := tQ D gp ((List.range n).map fun x => rf (gp + 1 + x)) ∧ ∀ x, x < n → tI D (gp + 1 + x) (rw8 n (R x))
theorem GM.row {D : gDS} {gp n x : Nat} {R : Nat → Nat → Nat} (h : GM D gp n R) (hx : x < n) (hn : n ≤ 100000) : gQld D (rf gp) (nI x) = some (rf (gp + 1 + x)) :=
  gQld_t h.1 (by rw [List.getElem?_map, List.getElem?_range hx]; rfl) (by omega)
theorem GM.get {D : gDS} {gp n x y : Nat} {R : Nat → Nat → Nat} (h : GM D gp n R) (hx : x < n) (hy : y < n) (hn : n ≤ 100000) : gIld D (rf (gp + 1 + x)) 1 (nI y) = some (nI (R x y)) := by
  rw [gIld_t (h.2 x hx) (by rw [rw8_len]; exact hy) (by omega), rw8_get hy]
theorem GM.ext {W : Nat → Prop} {A B : gDS} {gp n : Nat} {R : Nat → Nat → Nat} (h : GM A gp n R) (x : gE W A B) (hw : ∀ i, gp ≤ i → i ≤ gp + n → ¬ W i) : GM B gp n R := ⟨x.tQ (hw gp (Nat.le_refl _) (by omega)) h.1, fun y hy => x.tI (hw _ (by omega) (by omega)) (h.2 y hy)⟩
theorem gNwM_n {D : gDS} {n : Nat} (hn : n ≤ 100000) : ∃ D', gNwM D (nI n) (nI n) = some D' ∧ GM D' D.1.length n (fun _ _ => 0) ∧ gE noW D D' ∧ D'.1.length = D.1.length + 1 + n ∧ D'.2.1 = D.2.1 + (1 + n) ∧ D'.2.2 = D.2.2 + (n + n * n) := by
  unfold gNwM
  rw [gCnt_n hn, Option.bind_some, Option.bind_some]
  refine ⟨_, rfl, ⟨?_, fun x hx => ?_⟩, ⟨?_, fun i hi _ => ?_⟩, ?_, rfl, rfl⟩
  · show (D.1 ++ [_] ++ List.replicate n _)[D.1.length]? = _
    rw [List.append_assoc, List.getElem?_append_right (Nat.le_refl _), Nat.sub_self]
    rfl
  · show (D.1 ++ [_] ++ List.replicate n _)[D.1.length + 1 + x]? = _
    rw [List.getElem?_append_right (by rw [List.length_append, List.length_singleton]; omega), List.length_append, List.length_singleton, show D.1.length + 1 + x - (D.1.length + 1) = x by omega, List.getElem?_replicate, if_pos hx]
    have : List.replicate n (0 : Int32) = rw8 n (fun _ => 0) := by
      apply List.ext_getElem?
      intro z
      unfold rw8
      rw [List.getElem?_replicate, List.getElem?_map]
      by_cases q : z < n
      · rw [if_pos q, List.getElem?_range q]; rfl
      · rw [if_neg q, List.getElem?_eq_none (by rw [List.length_range]; omega)]; rfl
    rw [this]
  · show D.1.length ≤ (D.1 ++ [_] ++ List.replicate n _).length
    rw [List.length_append, List.length_append]
    omega
  · show (D.1 ++ [_] ++ List.replicate n _)[i]? = _
    rw [List.append_assoc, List.getElem?_append_left hi]
  · show (D.1 ++ [_] ++ List.replicate n _).length = _
    rw [List.length_append, List.length_append, List.length_singleton, List.length_replicate]
def rA (R : Nat → Nat → Nat) (a : Nat) (g : Nat → Nat) : Nat → Nat → Nat := fun x => if x = a then g else R x
theorem rA_at {R : Nat → Nat → Nat} {a : Nat} {g : Nat → Nat} : rA R a g a = g := if_pos rfl
theorem GM.congr {D : gDS} {gp n : Nat} {R R' : Nat → Nat → Nat} (h : GM D gp n R) (e : ∀ x y, x < n → y < n → R x y = R' x y) : GM D gp n R' := ⟨h.1, fun x hx => by
  have h1 := h.2 x hx
  have : rw8 n (R x) = rw8 n (R' x) := by
    unfold rw8
    exact List.map_congr_left fun y hy => by rw [e x y hx (List.mem_range.mp hy)]
  rw [← this]
  exact h1⟩
theorem GEd.of {D0 D : gDS} {c e b d hh tt : Nat} {N : NT} {sv gp : gRF} (hC : CO D0 c N sv e b d hh tt gp) (h : GEd D0 N e) (x : gE (fun i => i = c) D0 D) : GEd D N e := by
  refine h.ext x fun i hi q => ?_
  have q : i = c := q
  subst q
  obtain ⟨es, h1, -, -⟩ := h
  refine ⟨fun z => ?_, fun ys h2 => ?_⟩
  · subst z
    have h3 : D0.1[i]? = some (.inl _) := hC
    rw [show D0.1[i]? = _ from h1] at h3
    cases h3
  · have h3 : D0.1[i]? = some (.inl _) := hC
    rw [show D0.1[i]? = _ from h2] at h3
    cases h3
theorem GBn.of {D0 D : gDS} {c e b d hh tt : Nat} {N : NT} {sv gp : gRF} (hC : CO D0 c N sv e b d hh tt gp) (h : GBn D0 N b) (x : gE (fun i => i = c) D0 D) : GBn D N b := by
  refine h.ext x fun i hi q => ?_
  have q : i = c := q
  subst q
  obtain ⟨es, Bl, h1, -⟩ := h
  refine ⟨fun z => ?_, fun ys h2 => ?_⟩
  · subst z
    have h3 : D0.1[i]? = some (.inl _) := hC
    rw [show D0.1[i]? = _ from h1] at h3
    cases h3
  · have h3 : D0.1[i]? = some (.inl _) := hC
    rw [show D0.1[i]? = _ from h2] at h3
    cases h3
/-- while the search goes on -/
def SV (D0 D : gDS) (c : Nat) (N : NT) (sv : gRF) (e b d hh tt : Nat) (R : Nat → Nat → Nat) : Prop := CO D c N sv e b d hh tt (rf D0.1.length) ∧ GEd D N e ∧ GBn D N b ∧ GM D D0.1.length (2 * wE N) R ∧ gE (fun i => i = c) D0 D ∧ c < D0.1.length ∧ D.1.length = D0.1.length + 1 + 2 * wE N ∧ D.2.1 = D0.2.1 + (1 + 2 * wE N) ∧ D.2.2 = D0.2.2 + (2 * wE N + 2 * wE N * (2 * wE N))
section SLV
variable {D0 D : gDS} {c e b d hh tt : Nat} {N : NT} {sv gp : gRF} {R : Nat → Nat → Nat}
theorem SV.set {x y v : Nat} (h : SV D0 D c N sv e b d hh tt R) (hx : x < 2 * wE N) (hy : y < 2 * wE N) (hN : WN N) (hC0 : CO D0 c N sv e b d hh tt gp) (hE0 : GEd D0 N e) (hB0 : GBn D0 N b) :
    ∃ D', gIst D (rf (D0.1.length + 1 + x)) 1 (nI y) (nI v) = some D' ∧ SV D0 D' c N sv e b d hh tt (rA R x (up8 (R x) y v)) := by
  obtain ⟨h1, h2, h3, h4, h5, h6, h7, h8, h9⟩ := h
  have hE4 := hN.2.2.1
  refine ⟨_, gIst_t (h4.2 x hx) (by rw [rw8_len]; exact hy) (by omega), ?_⟩
  have hE9 : gE (fun i => i = c) D0 (gSet D (D0.1.length + 1 + x) (.inr (.inl (1, (rw8 (2 * wE N) (R x)).set y (nI v))))) := ⟨by rw [gSet_len]; omega, fun i hi hw => (gSet_ne (by omega)).trans (h5.2 i hi hw)⟩
  refine ⟨?_, GEd.of hC0 hE0 hE9, GBn.of hC0 hB0 hE9, ⟨?_, fun z hz => ?_⟩, hE9, h6, by rw [gSet_len]; exact h7, h8, h9⟩
  · exact (gSet_ne (by omega)).trans h1
  · exact (gSet_ne (by omega)).trans h4.1
  · unfold rA
    by_cases q : z = x
    · subst q
      rw [if_pos rfl, ← rw8_set]
      exact gSet_at (by omega)
    · rw [if_neg q]
      exact (gSet_ne (by omega)).trans (h4.2 z hz)
theorem sum_up {f : Nat → Nat} : ∀ {n y v : Nat}, y < n → v < f y → sumN (up8 f y v) n < sumN f n
  | 0, _, _, h, _ => absurd h (Nat.not_lt_zero _)
  | n + 1, y, v, h, hv => by
    show sumN (up8 f y v) n + up8 f y v n < sumN f n + f n
    unfold up8
    by_cases q : n = y
    · subst q
      rw [if_pos rfl]
      have : sumN (fun z => if z = n then v else f z) n = sumN f n := sumN_ag fun j hj => if_neg (by omega)
      rw [this]
      omega
    · rw [if_neg q]
      have := sum_up (f := f) (n := n) (y := y) (v := v) (by omega) hv
      unfold up8 at this
      omega
def Gd (N : NT) (a : Nat) (g : Nat → Nat) : Prop := ∀ y, y < 2 * wE N → g y ≤ 500000 ∧ gval N a y ≤ g y ∧ (wFol N a y = true → g y ≤ wCo N y)
theorem nI_le' {a b : Nat} (ha : a < 2 ^ 31) (hb : b < 2 ^ 31) : nI a ≤ nI b ↔ a ≤ b := by
  rw [Int32.le_iff_toInt_le, nI_toInt ha, nI_toInt hb]
  omega
theorem nI_lt' {a b : Nat} (ha : a < 2 ^ 31) (hb : b < 2 ^ 31) : nI a < nI b ↔ a < b := by
  rw [Int32.lt_iff_toInt_lt, nI_toInt ha, nI_toInt hb]
  omega
theorem i5e : (500000 : Int32) = nI 500000 := rfl
end SLV
