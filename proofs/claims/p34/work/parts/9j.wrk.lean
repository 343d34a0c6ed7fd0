/-! CITY'S WORK: the cost of serving an arc -/
def GSv (D : gDS) (N : NT) (sv : gRF) : Prop := (sv = none ∧ ∀ a, a < 2 * wE N → wSv N a = wCo N a) ∨ (sv ≠ none ∧ ∃ l, GN D 4 sv l ∧ ∀ a, a < 2 * wE N → ∀ v : Int, evs (wCo N a : Int) (wDe N (a / 2) : Int) l [] = some [v] → (wSv N a : Int) = max 0 (min 9999 v))
theorem GSv.ext {W : Nat → Prop} {A B : gDS} {N : NT} {sv : gRF} (h : GSv A N sv) (x : gE W A B) (hw : ∀ i, i < A.1.length → W i → ∀ vs, ¬ tO A i 9 vs) : GSv B N sv := by
  rcases h with h | ⟨h1, l, h2, h3⟩
  · exact Or.inl h
  · exact Or.inr ⟨h1, l, GN.ext x hw h2, h3⟩
theorem l9M : (9999 : Int64) = li 9999 := rfl
theorem l0M : (0 : Int64) = li 0 := rfl
theorem cl_sv {W : Int} (h : bnd W) : (if (if li W < (9999 : Int64) then li W else (9999 : Int64)) < (0 : Int64) then (0 : Int64) else (if li W < (9999 : Int64) then li W else (9999 : Int64))) = li (max 0 (min 9999 W)) := by
  unfold bnd at h
  rw [l9M, l0M]
  have e : (if li W < li 9999 then li W else li 9999) = li (min 9999 W) := by
    by_cases q : W < 9999
    · rw [if_pos ((li_lt (by omega) (by omega)).mpr q), Int.min_eq_right (by omega)]
    · rw [if_neg (fun z => q ((li_lt (by omega) (by omega)).mp z)), Int.min_eq_left (by omega)]
  rw [e]
  by_cases q : min 9999 W < 0
  · rw [if_pos ((li_lt (by omega) (by omega)).mpr q), Int.max_eq_left (by omega)]
  · rw [if_neg (fun z => q ((li_lt (by omega) (by omega)).mp z)), Int.max_eq_right (by omega)]
section WRK
variable {D : gDS} {c e b d hh tt : Nat} {N : NT} {sv gp : gRF}
theorem CO.ext {W : Nat → Prop} {A B : gDS} (h : CO A c N sv e b d hh tt gp) (x : gE W A B) (hw : ¬ W c) : CO B c N sv e b d hh tt gp := x.tO hw h
theorem g_work {a : Nat} (hN : WN N) (hC : CO D c N sv e b d hh tt gp) (hE : GEd D N e) (hS : GSv D N sv) (ha : a < 2 * wE N) : ∃ D', F_X8_work D (rf c) (nI a) = some (nI (wSv N a), D') ∧ gE noW D D' ∧ gMd 1 2 D D' := by
  have hE4 := hN.2.2.1
  have hck := hN.2.2.2.2.1 a ha
  have hdk := hN.2.2.2.2.2.1 (a / 2) (by omega)
  have hno : ∀ {A : gDS} {i : Nat} {vs : List gPV}, i < A.1.length → noW i → ¬ tO A i 9 vs := fun _ q => absurd q id
  unfold F_X8_work
  rw [gRv_t hC, Option.bind_some, gFr_t hC (b := 2) rfl, Option.bind_some]
  rcases hS with ⟨rfl, h1⟩ | ⟨h0, l, h1, h2⟩
  · refine ⟨D, ?_, gE.rf D, (gMd.rf D).mono (by omega) (by omega)⟩
    rw [if_pos rfl, g_cost hN hC hE ha, Option.bind_some, h1 a ha]
  · rw [if_neg h0, Option.bind_some]
    have x0 : gE noW D (gAJ D 2) := gNew_E
    have j0 : tJ (gAJ D 2) D.1.length [0, 0] := gNew_at
    have len0 : (gAJ D 2).1.length = D.1.length + 1 := gNew_len
    have hC0 := hC.ext x0 (fun q => q)
    have hE0 := hE.ext x0 (fun i _ q => absurd q id)
    have s0 : gJst (gAJ D 2) (gTop D) (0 : Int32) (nI (wCo N a)).toInt64 = some (gSet (gAJ D 2) D.1.length (.inr (.inr (.inl [(nI (wCo N a)).toInt64, 0])))) := gJst_t (a := 0) j0 (by show 0 < 2; omega) (by omega)
    rw [g_cost hN hC0 hE0 ha, Option.bind_some, s0, Option.bind_some]
    have x1 : gE noW D (gSet (gAJ D 2) D.1.length (.inr (.inr (.inl [(nI (wCo N a)).toInt64, 0])))) := ⟨by rw [gSet_len, len0]; omega, fun i hi hw => (gSet_ne (by omega)).trans (x0.2 i hi hw)⟩
    have j1 : tJ (gSet (gAJ D 2) D.1.length (.inr (.inr (.inl [(nI (wCo N a)).toInt64, 0])))) D.1.length [(nI (wCo N a)).toInt64, 0] := gSet_at (by omega)
    have m1 : gMd 1 2 D (gSet (gAJ D 2) D.1.length (.inr (.inr (.inl [(nI (wCo N a)).toInt64, 0])))) := ⟨Nat.le_refl _, Nat.le_refl _⟩
    have len1 : (gSet (gAJ D 2) D.1.length (.inr (.inr (.inl [(nI (wCo N a)).toInt64, 0])))).1.length = D.1.length + 1 := by rw [gSet_len, len0]
    generalize gSet (gAJ D 2) D.1.length (.inr (.inr (.inl [(nI (wCo N a)).toInt64, 0]))) = D5 at x1 j1 m1 len1 ⊢
    have hC1 := hC.ext x1 (fun q => q)
    have hE1 := hE.ext x1 (fun i _ q => absurd q id)
    have s1 : gJst D5 (gTop D) (1 : Int32) (nI (wDe N (a / 2))).toInt64 = some (gSet D5 D.1.length (.inr (.inr (.inl [(nI (wCo N a)).toInt64, (nI (wDe N (a / 2))).toInt64])))) := gJst_t (a := 1) j1 (by show 1 < 2; omega) (by omega)
    rw [g_demand hN hC1 hE1 ha, Option.bind_some, s1, Option.bind_some]
    have x2 : gE noW D (gSet D5 D.1.length (.inr (.inr (.inl [(nI (wCo N a)).toInt64, (nI (wDe N (a / 2))).toInt64])))) := ⟨by rw [gSet_len, len1]; omega, fun i hi hw => (gSet_ne (by omega)).trans (x1.2 i hi hw)⟩
    have j2 : tJ (gSet D5 D.1.length (.inr (.inr (.inl [(nI (wCo N a)).toInt64, (nI (wDe N (a / 2))).toInt64])))) D.1.length [(nI (wCo N a)).toInt64, (nI (wDe N (a / 2))).toInt64] := gSet_at (by omega)
    have m2 : gMd 1 2 D (gSet D5 D.1.length (.inr (.inr (.inl [(nI (wCo N a)).toInt64, (nI (wDe N (a / 2))).toInt64])))) := ⟨m1.1, m1.2⟩
    generalize gSet D5 D.1.length (.inr (.inr (.inl [(nI (wCo N a)).toInt64, (nI (wDe N (a / 2))).toInt64]))) = D7 at x2 j2 m2 ⊢
    rw [nI_zi (wCo N a), nI_zi (wDe N (a / 2)), zi_64 (by omega), zi_64 (by omega)] at j2
    obtain ⟨v, g1, g2, g3⟩ := g_node j2 (by omega) (by omega) 4 sv l [] (GN.ext x2 (fun i _ q => absurd q id) h1) (by show 0 + 4 ≤ 11; omega)
    have g3 : R_X9_value 4 D7 sv (gTop D) = some (li v) := g3
    have g4 := h2 a ha v g1
    refine ⟨D7, ?_, x2, m2⟩
    rw [g3, Option.bind_some, cl_sv g2, ← g4, li_32, ← nI_zi]
end WRK
