/-! THE SNAPSHOTS: the cities before the latest changes -/
def tR (D : gDS) (i : Nat) (rs : List gRF) : Prop := D.1[i]? = some (.inr (.inr (.inr (41, rs))))
theorem tR_lt {D : gDS} {i : Nat} {rs : List gRF} (h : tR D i rs) : i < D.1.length := (List.getElem?_eq_some_iff.mp h).1
theorem tR.tg {D : gDS} {i : Nat} {rs : List gRF} (h : tR D i rs) : kt D i = 1041 := by
  unfold kt
  rw [show D.1[i]? = _ from h]
theorem gE.tR {W : Nat → Prop} {A B : gDS} {i : Nat} {rs : List gRF} (h : gE W A B) (hw : ¬ W i) (t : tR A i rs) : tR B i rs := (h.2 i (tR_lt t) hw).trans t
/-- nine references -/
def r9 (f : Nat → gRF) : List gRF := (List.range 9).map f
theorem r9_len {f : Nat → gRF} : (r9 f).length = 9 := by unfold r9; rw [List.length_map, List.length_range]
theorem r9_get {f : Nat → gRF} {k : Nat} (h : k < 9) : (r9 f)[k]? = some (f k) := by
  unfold r9
  rw [List.getElem?_map, List.getElem?_range h]
  rfl
theorem r9_ag {f g : Nat → gRF} (h : ∀ i, i < 9 → f i = g i) : r9 f = r9 g := by
  unfold r9
  exact List.map_congr_left fun y hy => h y (List.mem_range.mp hy)
theorem r9_set {f : Nat → gRF} {k : Nat} {v : gRF} : (r9 f).set k v = r9 (fun i => if i = k then v else f i) := by
  apply List.ext_getElem?
  intro z
  unfold r9
  rw [List.getElem?_set, List.getElem?_map, List.getElem?_map, List.length_map, List.length_range]
  by_cases e : k = z
  · subst e
    rw [if_pos rfl]
    by_cases q : k < 9
    · rw [if_pos q, List.getElem?_range q]
      show some v = some (if k = k then v else f k)
      rw [if_pos rfl]
    · rw [if_neg q, List.getElem?_eq_none (by rw [List.length_range]; omega)]
      rfl
  · rw [if_neg e]
    by_cases q : z < 9
    · rw [List.getElem?_range q]
      show some (f z) = some (if z = k then v else f z)
      rw [if_neg (fun h => e h.symm)]
    · rw [List.getElem?_eq_none (by rw [List.length_range]; omega)]
      rfl
theorem gQld_r {D : gDS} {i k : Nat} {f : Nat → gRF} (h : tR D i (r9 f)) (hk : k < 9) : gQld D (rf i) (nI k) = some (f k) := by
  unfold gQld
  have e : gQs D (rf i) = some (41, r9 f) := by
    show (match D.1[i]? with
      | some (.inr (.inr (.inr p))) => some p
      | _ => none) = _
    rw [show D.1[i]? = _ from h]
  rw [e, Option.bind_some, aidx_in (by omega) (by rw [r9_len]; exact hk), Option.bind_some, List.getD_eq_getElem?_getD, r9_get hk]
  rfl
/-- what may stand among the snapshots -/
def fit8 (D : gDS) (r : gRF) : Prop := r = none ∨ ∃ ck vs, r = rf ck ∧ tO D ck 8 vs
theorem gQst_r {D : gDS} {i k : Nat} {f : Nat → gRF} {r : gRF} (h : tR D i (r9 f)) (hk : k < 9) (hr : fit8 D r) : gQst D (rf i) (nI k) r = some (gSet D i (.inr (.inr (.inr (41, r9 (fun j => if j = k then r else f j)))))) := by
  show (match D.1[i]? with
    | some (.inr (.inr (.inr (key, xs)))) => bif gFit D key r then (aidx xs.length (nI k)).bind fun j => some (gSet D i (.inr (.inr (.inr (key, xs.set j r))))) else none
    | _ => none) = _
  rw [show D.1[i]? = _ from h]
  have hf : gFit D 41 r = true := by
    rcases hr with rfl | ⟨ck, vs, rfl, h2⟩
    · rfl
    · show (match D.1[ck]? with
        | some (.inl (c, _)) => Nat.beq 41 41 && Nat.beq c 8
        | some (.inr (.inl (k, _))) => Nat.beq 41 6 && Nat.beq k 1
        | _ => false) = true
      rw [show D.1[ck]? = _ from h2]
      rfl
  show (bif gFit D 41 r then (aidx (r9 f).length (nI k)).bind fun j => some (gSet D i (.inr (.inr (.inr (41, (r9 f).set j r))))) else none) = _
  rw [hf, aidx_in (by omega) (by rw [r9_len]; exact hk), r9_set.symm]
  rfl
/-- a city that may stand there, and isn't c -/
def oth (D : gDS) (c : Nat) (r : gRF) : Prop := r = none ∨ ∃ ck vs, r = rf ck ∧ ck ≠ c ∧ tO D ck 8 vs
theorem oth.fit {D : gDS} {c : Nat} {r : gRF} (h : oth D c r) : fit8 D r := by
  rcases h with h | ⟨ck, vs, h1, -, h2⟩
  · exact Or.inl h
  · exact Or.inr ⟨ck, vs, h1, h2⟩
/-- what an operation, the random numbers and the snapshots' own array change -/
def Wop (bf c tt rnd i : Nat) : Prop := i = c ∨ i = tt ∨ i = rnd ∨ i = bf
/-- the kinds of those -/
def Wok (D : gDS) (bf c tt rnd : Nat) : Prop := kt D c = 108 ∧ kt D tt = 1006 ∧ kt D rnd = 110 ∧ kt D bf = 1041
/-- one snapshot -/
def SN1 (D : gDS) (c tt : Nat) (N : NT) (svr : gRF) (e b d g : Nat) (P : PT) (r : gRF) : Prop := ∃ ck hhk ttk, r = rf ck ∧ ck ≠ c ∧ ttk ≠ tt ∧ (e ≠ ttk ∧ b ≠ ttk ∧ g ≠ ttk) ∧ CV D ck N svr e b d hhk ttk g ∧ GP D P hhk ttk
/-- the snapshots of the latest changes -/
def SNP (D : gDS) (bf c tt : Nat) (N : NT) (svr : gRF) (e b d g : Nat) (H : HT) (done : Nat) (f : Nat → gRF) : Prop := tR D bf (r9 f) ∧ (∀ k, k < 9 → oth D c (f k)) ∧ ∀ k, k < done → k < 8 → SN1 D c tt N svr e b d g (hP H k) (f k) ∧ hN H k = N ∧ LDs N (hP H k) ∧ k < hK H
section SNA
variable {D : gDS} {bf c tt rnd : Nat} {N : NT} {svr : gRF} {e b d g : Nat} {P : PT} {H : HT} {done : Nat} {f : Nat → gRF}
theorem oth.ext {D' : gDS} {r : gRF} (h : oth D c r) (x : gE (Wop bf c tt rnd) D D') (w : Wok D bf c tt rnd) : oth D' c r := by
  obtain ⟨w1, w2, w3, w4⟩ := w
  rcases h with h | ⟨ck, vs, h1, h2, h3⟩
  · exact Or.inl h
  · refine Or.inr ⟨ck, vs, h1, h2, x.tO (fun q => ?_) h3⟩
    have hk := h3.tg
    rcases q with q | q | q | q
    · exact h2 q
    · rw [q, w2] at hk
      omega
    · rw [q, w3] at hk
      omega
    · rw [q, w4] at hk
      omega
theorem SN1.ext {D' : gDS} {tt' : Nat} {r : gRF} (h : SN1 D c tt N svr e b d g P r) (x : gE (Wop bf c tt rnd) D D') (w : Wok D bf c tt rnd) (hne : e ≠ tt ∧ b ≠ tt ∧ g ≠ tt) (ht : tt' = tt ∨ D.1.length ≤ tt') : SN1 D' c tt' N svr e b d g P r := by
  obtain ⟨w1, w2, w3, w4⟩ := w
  obtain ⟨ck, hhk, ttk, h1, h2, h3, h4, h5, h6⟩ := h
  have hck := h5.1.tg
  have hlt := h6.lt
  refine ⟨ck, hhk, ttk, h1, h2, ?_, h4, h5.exW x (fun i hi q => ?_), h6.exW x (fun i hi q => ?_)⟩
  · rcases ht with z | z
    · rw [z]
      exact h3
    · omega
  · rcases q with q | q | q | q
    · exact ⟨fun z => h2 (z.symm.trans q), by rw [q, w1]; omega, by rw [q, w1]; omega, Or.inl (by rw [q, w1]; omega)⟩
    · refine ⟨fun z => ?_, by rw [q, w2]; omega, by rw [q, w2]; omega, Or.inr ⟨fun z => hne.1 (z.symm.trans q), fun z => hne.2.1 (z.symm.trans q), fun z => hne.2.2 (z.symm.trans q)⟩⟩
      rw [← z, q, w2] at hck
      omega
    · refine ⟨fun z => ?_, by rw [q, w3]; omega, by rw [q, w3]; omega, Or.inl (by rw [q, w3]; omega)⟩
      rw [← z, q, w3] at hck
      omega
    · refine ⟨fun z => ?_, by rw [q, w4]; omega, by rw [q, w4]; omega, Or.inl (by rw [q, w4]; omega)⟩
      rw [← z, q, w4] at hck
      omega
  · rcases q with q | q | q | q
    · refine ⟨by rw [q, w1]; omega, fun z => ?_⟩
      obtain ⟨-, ts, y, -⟩ := h6
      have := y.tg
      rw [← z, q, w1] at this
      omega
    · exact ⟨by rw [q, w2]; omega, fun z => h3 (z.symm.trans q)⟩
    · refine ⟨by rw [q, w3]; omega, fun z => ?_⟩
      obtain ⟨-, ts, y, -⟩ := h6
      have := y.tg
      rw [← z, q, w3] at this
      omega
    · refine ⟨by rw [q, w4]; omega, fun z => ?_⟩
      obtain ⟨-, ts, y, -⟩ := h6
      have := y.tg
      rw [← z, q, w4] at this
      omega
/-- the snapshots over an operation -/
theorem SNP.ext {D' : gDS} {tt' : Nat} (h : SNP D bf c tt N svr e b d g H done f) (x : gE (fun i => i = c ∨ i = tt ∨ i = rnd) D D') (w : Wok D bf c tt rnd) (hne : e ≠ tt ∧ b ≠ tt ∧ g ≠ tt) (ht : tt' = tt ∨ D.1.length ≤ tt') : SNP D' bf c tt' N svr e b d g H done f := by
  obtain ⟨h1, h2, h3⟩ := h
  have x' : gE (Wop bf c tt rnd) D D' := x.mono (fun i _ z => by
    rcases z with z | z | z
    · exact Or.inl z
    · exact Or.inr (Or.inl z)
    · exact Or.inr (Or.inr (Or.inl z)))
  refine ⟨x.tR (fun z => ?_) h1, fun k hk => (h2 k hk).ext x' w, fun k hk hk8 => ?_⟩
  · have hb := h1.tg
    obtain ⟨w1, w2, w3, w4⟩ := w
    rcases z with z | z | z
    · rw [z, w1] at hb
      omega
    · rw [z, w2] at hb
      omega
    · rw [z, w3] at hb
      omega
  · obtain ⟨a1, a2⟩ := h3 k hk hk8
    exact ⟨a1.ext x' w hne ht, a2⟩
/-- the shift of the snapshots -/
def shf (f : Nat → gRF) (m : Nat) (j : Nat) : gRF := if m < j then f (j - 1) else f j
noncomputable def shB {τ : Type} (X : Int32 × gST → Option ((Int32 × gST) ⊕ τ)) (bfr : gRF) (s45 : Int32 × gST) : Option ((Int32 × gST) ⊕ τ) :=
  if s45.1 ≤ 0 then X s45 else
   (gQld s45.2.2 bfr (s45.1 - (1 : Int32))).bind fun r47 =>
   (gQst s45.2.2 bfr s45.1 r47).bind fun D48 =>
   some (.inl ((s45.1 - (1 : Int32)), (s45.2.1, D48)))
theorem g_shift {h : PH} (hf : ∀ k, k < 9 → oth D c (f k)) (hbk : ∀ ck vs, tO D ck 8 vs → ck ≠ bf) {τ : Type} (X : Int32 × gST → Option ((Int32 × gST) ⊕ τ)) : ∀ (m : Nat) (A : gDS), m ≤ 8 → tR A bf (r9 (shf f m)) → gE (fun i => i = bf) D A → A.2 = D.2 → A.1.length = D.1.length → ∃ A', loop (shB X (rf bf)) (nI m, (h, A)) = loop (shB X (rf bf)) (nI 0, (h, A')) ∧ tR A' bf (r9 (shf f 0)) ∧ gE (fun i => i = bf) D A' ∧ A'.2 = D.2 ∧ A'.1.length = D.1.length
  | 0, A, _, hA, x, m2, l2 => ⟨A, rfl, hA, x, m2, l2⟩
  | m + 1, A, hm, hA, x, m2, l2 => by
    have n1 : ¬ nI (m + 1) ≤ (0 : Int32) := fun z => by
      have := (nI_le' (a := m + 1) (b := 0) (by omega) (by omega)).mp z
      omega
    have e9 : nI (m + 1) - (1 : Int32) = nI m := by rw [i1, nI_sub (by omega), Nat.add_sub_cancel]
    have r1 : gQld A (rf bf) (nI m) = some (f m) := by
      rw [gQld_r hA (by omega)]
      unfold shf
      rw [if_neg (by omega)]
    have ft : fit8 A (f m) := by
      rcases hf m (by omega) with z | ⟨ck, vs, z1, z2, z3⟩
      · exact Or.inl z
      · exact Or.inr ⟨ck, vs, z1, x.tO (hbk ck vs z3) z3⟩
    have s1 := gQst_r hA (k := m + 1) (by omega) ft
    have eq9 : r9 (fun j => if j = m + 1 then f m else shf f (m + 1) j) = r9 (shf f m) := r9_ag (fun i hi => by
      unfold shf
      by_cases z : i = m + 1
      · rw [if_pos z, if_pos (by omega), z, Nat.add_sub_cancel]
      · rw [if_neg z]
        by_cases y : m + 1 < i
        · rw [if_pos y, if_pos (by omega)]
        · rw [if_neg y, if_neg (by omega)])
    rw [eq9] at s1
    obtain ⟨A', a1, a2⟩ := g_shift (h := h) hf hbk X m (gSet A bf (.inr (.inr (.inr (41, r9 (shf f m)))))) (by omega) (gSet_at (tR_lt hA)) (x.tr (gSet_E (Or.inl rfl))) m2 (gSet_len.trans l2)
    refine ⟨A', ?_, a2⟩
    rw [← a1]
    conv => lhs; rw [loop_eq]; unfold shB
    dsimp only
    rw [if_neg n1, e9, r1, Option.bind_some, s1, Option.bind_some, Option.bind_some]
    rfl
end SNA
