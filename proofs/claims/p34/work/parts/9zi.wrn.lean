/-! STRINGS, NUMBERS, ROWS OF NUMBERS WRITTEN -/
section WRN
variable {h : PH} {D : gDS} {buf : Nat}
/-- a piece written -/
def WO (h : PH) (D : gDS) (buf : Nat) (T : List Nat) (s : gST) : Prop := TW s.1 s.2 buf T ∧ FWr h s.1 ∧ gE (fun j => j = buf) D s.2 ∧ s.2.2 = D.2
theorem TW.kt {T : List Nat} (hT : TW h D buf T) : kt D buf = 11 := hT.1.tg
theorem w_putO {T : List Nat} {c : Nat} {s : gST} (hT : WO h D buf T s) (hc : c < 128) (hl : T.length < 680) : ∃ s', F_L_put s (rf buf) (nI c) = some s' ∧ WO h D buf (T ++ [c]) s' := by
  obtain ⟨h1, D1⟩ := s
  obtain ⟨a1, a2, a3, a4⟩ := hT
  obtain ⟨h', D', b1, b2, b3, b4, b5⟩ := w_put a1 hc hl
  exact ⟨(h', D'), b1, b2, a2.trans b3, a3.tr b4, b5.trans a4⟩
theorem WO.rf {T : List Nat} (hT : TW h D buf T) : WO h D buf T (h, D) := ⟨hT, FWr.refl h, gE.rf D, rfl⟩
theorem w_write {T bs : List Nat} {r : gRF} {s : gST} (hT : WO h D buf T s) (hS : SS s.2 r (bs.map nI)) (hb : ∀ c ∈ bs, c < 128) (hl : T.length + bs.length ≤ 680) : ∃ s', F_L_write s (rf buf) r = some s' ∧ WO h D buf (T ++ bs) s' := by
  unfold F_L_write
  have hk := hT.1.kt
  refine loop_ind0 (fun k z => k ≤ bs.length ∧ ∃ s', z = (nI k, s') ∧ WO h D buf (T ++ bs.take k) s' ∧ gE (fun j => j = buf) s.2 s'.2) _ bs.length ⟨Nat.zero_le _, s, rfl, by rw [List.take_zero, List.append_nil]; exact hT, gE.rf _⟩ (fun k z hI => ?_)
  obtain ⟨hkl, s', rfl, a1, a2⟩ := hI
  have hS' : SS s'.2 r (bs.map nI) := hS.ext a2 (fun j hj z => by rw [z, hk]; omega)
  dsimp only
  rw [s_length hS', List.length_map, Option.bind_some]
  rcases Nat.lt_or_ge k bs.length with q | q
  · have n1 : ¬ nI bs.length ≤ nI k := fun z => by
      have := (nI_le' (by omega) (by omega)).mp z
      omega
    have hc : bs[k]? = some bs[k] := List.getElem?_eq_getElem q
    have hcm : (bs.map nI)[k]? = some (nI bs[k]) := by rw [List.getElem?_map, hc]; rfl
    obtain ⟨s2, b1, b2⟩ := w_putO a1 (hb _ (List.getElem_mem q)) (by rw [List.length_append, List.length_take]; omega)
    rw [if_neg n1, s_charAt hS' hcm (hb _ (List.getElem_mem q)) (by rw [List.length_map]; omega), Option.bind_some, show F_L_put (s'.1, s'.2) (rf buf) (nI bs[k]) = some s2 from b1, Option.bind_some, nI_1]
    have et : T ++ bs.take (k + 1) = T ++ bs.take k ++ [bs[k]] := by
      rw [List.append_assoc, List.take_add_one, hc]
      rfl
    refine Or.inr ⟨q, _, rfl, q, s2, rfl, by rw [et]; exact b2, ?_⟩
    have c3 := b2.2.2.1
    obtain ⟨h1, D1⟩ := s'
    obtain ⟨h', D', c1, c2, -, c4, -⟩ := w_put a1.1 (hb _ (List.getElem_mem q)) (by rw [List.length_append, List.length_take]; omega)
    have : s2 = (h', D') := Option.some.inj (b1.symm.trans c1)
    rw [this]
    exact a2.tr c4
  · obtain rfl : k = bs.length := by omega
    refine Or.inl ⟨_, if_pos (Int32.le_refl _), ?_⟩
    rw [List.take_length] at a1
    exact a1
/-- a power's digit and those behind it -/
theorem dv_n {a b : Nat} (ha : a < 2 ^ 31) (hb : b < 2 ^ 31) (h0 : ¬ b = 0) : gDv (nI a) (nI b) = some (nI (a / b)) := by
  unfold gDv
  rw [if_neg (nz_I h0 hb), nI_div ha hb]
noncomputable def wnB (p1 : gRF) (p2 : Int32) (s2 : Int32 × gST) : Option ((Int32 × gST) ⊕ (Int32 ⊕ gST)) :=
    if s2.1 ≤ 0 then
     some (.inr (.inr ((s2.2.1, s2.2.2))))
    else
     (gDv p2 s2.1).bind fun z3 =>
     (F_L_put (s2.2.1, s2.2.2) p1 ((48 : Int32) + (z3 - z3 / (10 : Int32) * (10 : Int32)))).bind fun y4 =>
     some (.inl ((s2.1 / (10 : Int32)), (y4.1, y4.2)))
theorem wn_step {T : List Nat} {s : gST} {v p : Nat} (hT : WO h D buf T s) (hv : v < 1000) (hp : 0 < p) (hp2 : p < 1000) (hl : T.length < 680) : ∃ s', loop (wnB (rf buf) (nI v)) (nI p, s) = loop (wnB (rf buf) (nI v)) (nI (p / 10), s') ∧ WO h D buf (T ++ [48 + v / p % 10]) s' := by
  have h10 : v / p % 10 < 10 := Nat.mod_lt _ (by omega)
  have hd : v / p ≤ v := Nat.div_le_self _ _
  obtain ⟨s', b1, b2⟩ := w_putO hT (c := 48 + v / p % 10) (by omega) hl
  refine ⟨s', ?_, b2⟩
  have n1 : ¬ nI p ≤ (0 : Int32) := fun z => by
    have := (nI_le' (b := 0) (by omega) (by omega)).mp z
    omega
  rw [loop_eq]
  conv => lhs; unfold wnB
  dsimp only
  rw [if_neg n1, dv_n (by omega) (by omega) (by omega), Option.bind_some, show nI (v / p) - nI (v / p) / (10 : Int32) * (10 : Int32) = nI (v / p % 10) from nI_mod (b := 10) (by omega) (by omega) (by omega), show (48 : Int32) + nI (v / p % 10) = nI (48 + v / p % 10) from nI_add _ _, show F_L_put (s.1, s.2) (rf buf) (nI (48 + v / p % 10)) = some s' from b1, Option.bind_some, i10, nI_div (by omega) (by omega), Option.bind_some]
  rfl
theorem wn_end {s : gST} {v : Nat} {p1 : gRF} : loop (wnB p1 (nI v)) (nI 0, s) = some (.inr s) := by
  rw [loop_eq]
  unfold wnB
  dsimp only
  rw [if_pos (show nI 0 ≤ (0 : Int32) from Int32.le_refl _), Option.bind_some]
theorem w_num {T : List Nat} {s : gST} {v : Nat} (hT : WO h D buf T s) (hv : v < 1000) (hl : T.length + 4 ≤ 680) : ∃ s', F_L_writeNumber s (rf buf) (nI v) = some s' ∧ WO h D buf (T ++ dg v) s' := by
  have is_ : F_L_writeNumber s (rf buf) (nI v) = loop (fun (s1 : Int32) => if (nI v / (10 : Int32)) < s1 then loop (wnB (rf buf) (nI v)) (s1, (s.1, s.2)) else some (.inl ((s1 * (10 : Int32))))) ((1 : Int32)) := rfl
  have e10 : nI v / (10 : Int32) = nI (v / 10) := by rw [i10, nI_div (by omega) (by omega)]
  have go : ∀ p : Nat, p < 100 → ¬ v / 10 < p → loop (fun (s1 : Int32) => if (nI v / (10 : Int32)) < s1 then loop (wnB (rf buf) (nI v)) (s1, (s.1, s.2)) else some (.inl ((s1 * (10 : Int32))))) (nI p) = loop (fun (s1 : Int32) => if (nI v / (10 : Int32)) < s1 then loop (wnB (rf buf) (nI v)) (s1, (s.1, s.2)) else some (.inl ((s1 * (10 : Int32))))) (nI (p * 10)) := fun p hp hn => by
    conv => lhs; rw [loop_eq]
    rw [e10, if_neg (fun z => hn ((nI_lt' (by omega) (by omega)).mp z)), Option.bind_some, i10, nI_mul]
  have st : ∀ (p : Nat) (s' : gST), p < 1000 → v / 10 < p → loop (wnB (rf buf) (nI v)) (nI p, (s.1, s.2)) = some (.inr s') → loop (fun (s1 : Int32) => if (nI v / (10 : Int32)) < s1 then loop (wnB (rf buf) (nI v)) (s1, (s.1, s.2)) else some (.inl ((s1 * (10 : Int32))))) (nI p) = some s' := fun p s' hp hn hs => by
    rw [loop_eq, e10, if_pos ((nI_lt' (by omega) (by omega)).mpr hn), hs, Option.bind_some]
  rw [is_]
  by_cases q1 : v < 10
  · obtain ⟨s1, a1, a2⟩ := wn_step hT hv (p := 1) (by omega) (by omega) (by omega)
    refine ⟨s1, st 1 s1 (by omega) (by omega) (a1.trans wn_end), ?_⟩
    rw [dg_1 q1]
    rw [show v / 1 % 10 = v by omega] at a2
    exact a2
  · by_cases q2 : v < 100
    · obtain ⟨s1, a1, a2⟩ := wn_step hT hv (p := 10) (by omega) (by omega) (by omega)
      obtain ⟨s2, b1, b2⟩ := wn_step a2 hv (p := 1) (by omega) (by omega) (by rw [List.length_append, List.length_singleton]; omega)
      refine ⟨s2, (go 1 (by omega) (by omega)).trans (st 10 s2 (by omega) (by omega) ((a1.trans b1).trans wn_end)), ?_⟩
      rw [dg_2 (by omega) q2]
      rw [show v / 1 % 10 = v % 10 by omega, show v / 10 % 10 = v / 10 by omega, List.append_assoc] at b2
      exact b2
    · obtain ⟨s1, a1, a2⟩ := wn_step hT hv (p := 100) (by omega) (by omega) (by omega)
      obtain ⟨s2, b1, b2⟩ := wn_step a2 hv (p := 10) (by omega) (by omega) (by rw [List.length_append, List.length_singleton]; omega)
      obtain ⟨s3, c1, c2⟩ := wn_step b2 hv (p := 1) (by omega) (by omega) (by rw [List.length_append, List.length_append, List.length_singleton, List.length_singleton]; omega)
      refine ⟨s3, (go 1 (by omega) (by omega)).trans ((go 10 (by omega) (by omega)).trans (st 100 s3 (by omega) (by omega) (((a1.trans b1).trans c1).trans wn_end))), ?_⟩
      rw [dg_3 (by omega) hv]
      rw [show v / 1 % 10 = v % 10 by omega, show v / 100 % 10 = v / 100 by omega, List.append_assoc, List.append_assoc] at c2
      exact c2
def numI (vs : List Nat) : List Itm := vs.flatMap fun v => [(3, 0), (1, v)]
theorem numI_cons (v : Nat) (vs : List Nat) : numI (v :: vs) = (3, 0) :: (1, v) :: numI vs := rfl
theorem numI_app (a b : List Nat) : numI (a ++ b) = numI a ++ numI b := List.flatMap_append
theorem numI_len : ∀ (vs : List Nat), (∀ v ∈ vs, v < 10000) → (rend (numI vs)).length ≤ 5 * vs.length
  | [], _ => Nat.le_refl _
  | v :: vs, h => by
    have ih := numI_len vs (fun w hw => h w (List.mem_cons_of_mem _ hw))
    have := dg_len (h v List.mem_cons_self)
    rw [numI_cons, rend_cons, rend_cons, itB_3, itB_1]
    simp only [List.length_append, List.length_cons, List.length_nil]
    omega
theorem SS_c {D : gDS} {j : Nat} (hj : j < 16) : SS D (some (.inr (10 + 2 * j))) (gStrB j) := Or.inr ⟨j, hj, rfl, rfl⟩
theorem w_nums {T bs vs : List Nat} {r : gRF} {a : Nat} {s : gST} (hT : WO h D buf T s) (hS : SS s.2 r (bs.map nI)) (hb : ∀ c ∈ bs, c < 128) (hA : tI s.2 a (vs.map nI)) (hne : a ≠ buf) (hv : ∀ v ∈ vs, v < 1000) (hl : T.length + bs.length + 5 * vs.length + 1 ≤ 680) (hvl : vs.length ≤ 10) : ∃ s', F_L_writeNumbers s (rf buf) r (rf a) = some s' ∧ WO h D buf (T ++ bs ++ rend (numI vs) ++ [59]) s' := by
  obtain ⟨s1, a1, a2⟩ := w_write hT hS hb (by omega)
  have keep : ∀ {T' : List Nat} {s' : gST}, WO s.1 s.2 buf T' s' → tI s'.2 a (vs.map nI) := fun w => w.2.2.1.tI hne hA
  have hT0 : WO s.1 s.2 buf T (s.1, s.2) := WO.rf hT.1
  obtain ⟨s1', a1', a2'⟩ := w_write hT0 hS hb (by omega)
  have es : s1 = s1' := Option.some.inj (a1.symm.trans a1')
  subst es
  unfold F_L_writeNumbers
  rw [show F_L_write (s.1, s.2) (rf buf) r = some s1 from a1, Option.bind_some, gLen_t (keep a2'), List.length_map, Option.bind_some]
  refine loop_ind0 (fun k z => k ≤ vs.length ∧ ∃ s', z = (nI k, s') ∧ WO h D buf (T ++ bs ++ rend (numI (vs.take k))) s' ∧ tI s'.2 a (vs.map nI)) _ vs.length ⟨Nat.zero_le _, s1, rfl, ?_, keep a2'⟩ (fun k z hI => ?_)
  · rw [List.take_zero]
    show WO h D buf (T ++ bs ++ []) s1
    rw [List.append_nil]
    exact a2
  obtain ⟨hk, s', rfl, b1, b2⟩ := hI
  have hlen : ∀ j, (rend (numI (vs.take j))).length ≤ 5 * vs.length := fun j => by
    have := numI_len (vs.take j) (fun v hv' => by have := hv v (List.mem_of_mem_take hv'); omega)
    rw [List.length_take] at this
    omega
  dsimp only
  rcases Nat.lt_or_ge k vs.length with q | q
  · have n1 : ¬ nI vs.length ≤ nI k := fun z => by
      have := (nI_le' (by omega) (by omega)).mp z
      omega
    have hc : vs[k]? = some vs[k] := List.getElem?_eq_getElem q
    have hvk := hv _ (List.getElem_mem q)
    have hlk := numI_len (vs.take k) (fun v hv' => by have := hv v (List.mem_of_mem_take hv'); omega)
    rw [List.length_take] at hlk
    have rd : gIld s'.2 (rf a) 1 (nI k) = some (nI vs[k]) := by
      rw [gIld_t b2 (by rw [List.length_map]; exact q) (by omega), List.getD_eq_getElem?_getD, List.getElem?_map, hc]
      rfl
    have b1' : WO s'.1 s'.2 buf (T ++ bs ++ rend (numI (vs.take k))) (s'.1, s'.2) := WO.rf b1.1
    have hSp : SS s'.2 (some (.inr 20)) ([32].map nI) := SS_c (j := 5) (by omega)
    obtain ⟨s2, c1, c2⟩ := w_write b1 hSp (fun c hc => by simp at hc; omega) (by simp only [List.length_append, List.length_singleton]; omega)
    obtain ⟨s2', c1', c2'⟩ := w_write b1' hSp (fun c hc => by simp at hc; omega) (by simp only [List.length_append, List.length_singleton]; omega)
    have es : s2 = s2' := Option.some.inj (c1.symm.trans c1')
    subst es
    obtain ⟨s3, d1, d2⟩ := w_num c2 hvk (by simp only [List.length_append, List.length_singleton]; omega)
    obtain ⟨s3', d1', d2'⟩ := w_num c2' hvk (by simp only [List.length_append, List.length_singleton]; omega)
    have es : s3 = s3' := Option.some.inj (d1.symm.trans d1')
    subst es
    rw [if_neg n1, rd, Option.bind_some, show F_L_write (s'.1, s'.2) (rf buf) (some (.inr 20)) = some s2 from c1, Option.bind_some, show F_L_writeNumber (s2.1, s2.2) (rf buf) (nI vs[k]) = some s3 from d1, Option.bind_some, nI_1]
    have et : T ++ bs ++ rend (numI (vs.take (k + 1))) = T ++ bs ++ rend (numI (vs.take k)) ++ [32] ++ dg vs[k] := by
      have e1 : vs.take (k + 1) = vs.take k ++ [vs[k]] := by
        rw [List.take_add_one, hc]
        rfl
      rw [e1, numI_app, rend_app]
      show _ = _
      rw [show rend (numI [vs[k]]) = [32] ++ dg vs[k] by rw [numI_cons, rend_cons, rend_cons, itB_3, itB_1]; show [32] ++ (dg vs[k] ++ []) = _; rw [List.append_nil]]
      simp only [List.append_assoc]
    exact Or.inr ⟨q, _, rfl, q, s3, rfl, by rw [et]; exact d2, d2'.2.2.1.tI hne b2⟩
  · obtain rfl : k = vs.length := by omega
    rw [List.take_length] at b1
    have hl9 := hlen vs.length
    rw [List.take_length] at hl9
    have hSp : SS s'.2 (some (.inr 22)) ([59].map nI) := SS_c (j := 6) (by omega)
    obtain ⟨s2, c1, c2⟩ := w_write b1 hSp (fun c hc => by simp at hc; omega) (by simp only [List.length_append, List.length_singleton]; omega)
    refine Or.inl ⟨s2, ?_, c2⟩
    rw [if_pos (Int32.le_refl _), show F_L_write (s'.1, s'.2) (rf buf) (some (.inr 22)) = some s2 from c1, Option.bind_some]
end WRN
