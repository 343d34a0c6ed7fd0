/-! THE TWO EVALUATORS OF THE SERVICE EXPRESSION -/
/-- the reference's data at r hold a service expression that gives the services of N -/
def RS (h : PH) (r : Nat) (N : NT) : Prop := (h.1 r 5 = nI 0 ∧ ∀ x, x < 2 * wE N → wSv N x = wCo N x) ∨
  (h.1 r 5 = nI 1 ∧ ∃ l : List Stq, h.1 r 6 = nI (offs l) ∧ offs l ≤ 1300 ∧ (∀ s ∈ l, stOK s) ∧ laid (fun j => h.1 r (256 + j)) 0 l ∧ ∀ x, x < 2 * wE N → ∃ v : Int, evs (wCo N x) (wDe N (x / 2)) l [] = some [v] ∧ (wSv N x : Int) = max 0 (min 9999 v))
theorem RS.same {h h' : PH} {r r' : Nat} {N : NT} (c : RS h r N) (e : h'.1 r' = h.1 r) : RS h' r' N := by
  unfold RS
  rw [e]
  exact c
theorem nI_m1 (n : Nat) : nI (n + 1) + (-1 : Int32) = nI n := by
  show nI (n + 1) + zi (-1) = nI n
  rw [nI_zi, nI_zi, zi_add]
  congr 1
  omega
theorem offs_len : ∀ (l : List Stq), l.length ≤ offs l
  | [] => Nat.le_refl _
  | s :: t => by
    have := offs_len t
    show t.length + 1 ≤ wdt s + offs t
    unfold wdt
    split <;> omega
theorem wdt_pos (s : Stq) : 1 ≤ wdt s := by unfold wdt; split <;> omega
theorem evs_op {c d : Int} {s : Stq} {t : List Stq} {st z : List Int} (hs : ¬ s.1 ≤ 1) (h : evs c d (s :: t) st = some z) : ∃ b a r, st = b :: a :: r ∧ evs c d t (apo s.1 a b :: r) = some z := by
  unfold evs at h
  rw [if_neg hs] at h
  match st, h with
  | [], h => cases h
  | [_], h => cases h
  | b :: a :: r, h => exact ⟨b, a, r, rfl, h⟩
theorem evs_pu {c d : Int} {s : Stq} {t : List Stq} {st z : List Int} (hs : s.1 ≤ 1) (h : evs c d (s :: t) st = some z) : st.length < 11 ∧ evs c d t (opv c d s :: st) = some z := by
  unfold evs at h
  rw [if_pos hs] at h
  by_cases q : st.length < 11
  · rw [if_pos q] at h
    exact ⟨q, h⟩
  · rw [if_neg q] at h
    cases h
theorem ex_pr {α β : Type} {x : Option (α × β)} {v : α} {P : β → Prop} (h : ∃ t, x = some t ∧ (t.1 = v ∧ P t.2)) : ∃ b, x = some (v, b) ∧ P b := by
  obtain ⟨⟨a, b⟩, h1, h2, h3⟩ := h
  exact ⟨b, by rw [h1]; exact congrArg (fun y => some (y, b)) h2, h3⟩
section SRW
variable {h : PH} {N : NT}
theorem r_dem {x : Nat} (hc : RN h 124 N) (hx : x < 2 * wE N) (hE : wE N ≤ 14) : ald 1556 h 124 (F_X8_edge h (nI x / (2 : Int32)) + (4 : Int32)) = some (nI (wDe N (x / 2))) := by
  rw [r_half (by omega), r_edge, i4, nI_add, r_num (by omega), show 7 + 5 * (x / 2) + 4 = 11 + 5 * (x / 2) by omega, hc.2.2.2.2.2.1 _ (by omega)]
theorem r_serv {x : Nat} (hN : WN N) (hc : RN h 124 N) (hs : RS h 124 N) (hx : x < 2 * wE N) : ∃ h', F_X8_serviceOf h (nI x) = some (nI (wSv N x), h') ∧ Fr (fun a => a = 165) h h' := by
  have hE := hN.2.2.1
  have hck : wCo N x ≤ 99 := (hN.2.2.2.2.1 x hx).2.2.1
  have hdk : wDe N (x / 2) ≤ 99 := hN.2.2.2.2.2.1 _ (by omega)
  unfold F_X8_serviceOf
  rw [r_dem hc hx hE, i5, r_num (by omega)]
  simp only [Option.bind_some]
  rcases hs with ⟨s0, s1⟩ | ⟨s0, l, s1, s2, s3, s4, s5⟩
  · rw [s0, if_neg (fun z => z rfl), r_cost hN hc hx, s1 x hx]
    exact ⟨h, rfl, Fr.refl h⟩
  · rw [s0, if_pos (by decide)]
    obtain ⟨v, hv, hw⟩ := s5 x hx
    refine ex_pr (loop_ind0 (σ := Int32 × Int32 × PH) (fun k s => ∃ (l1 l2 : List Stq) (st : List Int), l = l1 ++ l2 ∧ l1.length = k ∧ s.1 = nI st.length ∧ s.2.1 = nI (offs l1) ∧ Fr (fun a => a = 165) h s.2.2 ∧ SKl (s.2.2.2 165) st ∧ evs (wCo N x) (wDe N (x / 2)) l2 st = some [v] ∧ (∀ u ∈ st, bnd u) ∧ st.length ≤ 11 ∧ laid (fun j => h.1 124 (256 + j)) (offs l1) l2) _ l.length
      ⟨[], l, [], rfl, rfl, rfl, rfl, Fr.refl h, trivial, hv, fun u hu => (by cases hu), Nat.zero_le _, s4⟩ ?_)
    rintro k ⟨p1, p2, p3⟩ ⟨l1, l2, st, rfl, rfl, e1, e2, fr, sk, ev, bd, hl, la⟩
    dsimp only at e1 e2 fr sk ⊢
    subst e1
    subst e2
    have fo := offs_app l1 l2
    rw [i6, r_num (by omega), (fr 124 (by omega)).1, s1]
    show (∃ t, (if nI (offs (l1 ++ l2)) ≤ nI (offs l1) then _ else _) = some (Sum.inr t) ∧ _) ∨ (_ ∧ ∃ s', (if nI (offs (l1 ++ l2)) ≤ nI (offs l1) then _ else _) = some (Sum.inl s') ∧ _)
    cases l2 with
    | nil =>
      have hst : st = [v] := Option.some.inj ev
      subst hst
      left
      rw [List.append_nil, if_pos (nI_le (Nat.le_refl _) (by rw [List.append_nil] at s2; omega))]
      have hb : bnd v := bd v List.mem_cons_self
      unfold bnd at hb
      have hl0 : ldl 1300 p3 165 (0 : Int32) = some (li v) := by
        rw [i0, ldl_in (by omega) (by omega)]
        exact congrArg some sk.1
      rw [hl0]
      show ∃ t, (if 0 ≤ lg_cmp (li v) (0 : Int64) then (some (li v)).bind _ else some (Sum.inr ((0 : Int32), p3))) = some (Sum.inr t) ∧ _
      by_cases q0 : 0 ≤ v
      · rw [if_pos ((lg_cmp_ge _ _).mpr (by rw [← li_0]; exact (li_le (by omega) (by omega)).mpr q0))]
        show ∃ t, (if lg_cmp (li v) (9999 : Int64) ≤ 0 then some (Sum.inr ((li v).toInt32, p3)) else some (Sum.inr ((9999 : Int32), p3))) = some (Sum.inr t) ∧ _
        have e9 : (9999 : Int64) = li 9999 := rfl
        rw [e9]
        by_cases q1 : v ≤ 9999
        · rw [if_pos ((lg_cmp_le _ _).mpr ((li_le (by omega) (by omega)).mpr q1)), li_32]
          refine ⟨_, rfl, ?_, fr⟩
          show zi v = nI (wSv N x)
          rw [nI_zi, hw]
          congr 1
          omega
        · rw [if_neg (fun z => q1 ((li_le (by omega) (by omega)).mp ((lg_cmp_le _ _).mp z)))]
          refine ⟨_, rfl, ?_, fr⟩
          show nI 9999 = nI (wSv N x)
          congr 1
          omega
      · rw [if_neg (fun z => q0 (by have := (lg_cmp_ge _ _).mp z; rw [← li_0] at this; exact (li_le (by omega) (by omega)).mp this))]
        refine ⟨_, rfl, ?_, fr⟩
        show nI 0 = nI (wSv N x)
        congr 1
        omega
    | cons s t =>
      have fs : offs (l1 ++ s :: t) = offs l1 + (wdt s + offs t) := fo
      have hw1 := wdt_pos s
      have sok : stOK s := s3 s (List.mem_append_right _ List.mem_cons_self)
      obtain ⟨la1, la2, la3⟩ := la
      right
      refine ⟨by rw [List.length_append, List.length_cons]; omega, ?_⟩
      rw [if_neg (nI_ge (by omega) (by omega)), i256, nI_add, r_num (by omega), (fr 124 (by omega)).1]
      have la1 : h.1 124 (256 + offs l1) = nI s.1 := la1
      have hs5 := sok.1
      show ∃ s', (if (1 : Int32) < h.1 124 (256 + offs l1) then (ldl 1300 p3 165 ((nI st.length + (-1 : Int32)) - (1 : Int32))).bind _ else (ald 1556 p3 124 (nI 256 + (nI (offs l1) + (1 : Int32)))).bind _) = some (Sum.inl s') ∧ _
      rw [la1]
      by_cases hop : s.1 ≤ 1
      · obtain ⟨hl2, ev2⟩ := evs_pu hop ev
        have hwd : wdt s = 2 := by unfold wdt; rw [if_pos hop]
        rw [if_neg (show ¬ (1 : Int32) < nI s.1 from nI_nlt (a := 1) hop (by omega)), nI_1 (offs l1), nI_add 256 (offs l1 + 1), r_num (by omega), (fr 124 (by omega)).1]
        have la2 : h.1 124 (256 + (offs l1 + 1)) = nI s.2 := la2 hop
        rw [la2]
        show ∃ s', (if ¬ nI s.1 = 0 then (if ¬ nI s.2 = 0 then (asl 1300 p3 165 (nI st.length) (nI (wDe N (x / 2))).toInt64).bind _ else (F_X8_costOf p3 (nI x)).bind _) else (asl 1300 p3 165 (nI st.length) (nI s.2).toInt64).bind _) = some (Sum.inl s') ∧ _
        have hs2 : s.2 < 2 ^ 31 := by
          rcases Nat.lt_or_ge s.1 1 with q | q
          · have := sok.2.1 (by omega); omega
          · have := sok.2.2 (by omega); omega
        have next : ∀ w : Int64, w = li (opv (wCo N x) (wDe N (x / 2)) s) → ∃ (l1' l2' : List Stq) (st' : List Int), l1 ++ s :: t = l1' ++ l2' ∧ l1'.length = l1.length + 1 ∧ nI st.length + (1 : Int32) = nI st'.length ∧ nI (offs l1 + 1) + (1 : Int32) = nI (offs l1') ∧ Fr (fun a => a = 165) h (pul p3 165 st.length w) ∧ SKl ((pul p3 165 st.length w).2 165) st' ∧ evs (wCo N x) (wDe N (x / 2)) l2' st' = some [v] ∧ (∀ u ∈ st', bnd u) ∧ st'.length ≤ 11 ∧ laid (fun j => h.1 124 (256 + j)) (offs l1') l2' := by
          intro w hw
          refine ⟨l1 ++ [s], t, opv (wCo N x) (wDe N (x / 2)) s :: st, by simp, by simp, nI_1 _, ?_, fr.trans (Fr.pul rfl), ⟨?_, SKl_far sk (fun j hj => ?_)⟩, ev2, fun u hu => ?_, by rw [List.length_cons]; omega, ?_⟩
          · rw [nI_1, offs_app]
            show _ = nI (offs l1 + (wdt s + 0))
            rw [hwd]
          · rw [pul_get, if_pos ⟨rfl, rfl⟩, hw]
          · rw [pul_get, if_neg (by omega)]
          · rcases List.mem_cons.mp hu with rfl | hu
            · exact opv_bnd (by omega) (by omega) sok hop
            · exact bd u hu
          · rw [offs_app]
            show laid _ (offs l1 + (wdt s + 0)) t
            exact la3
        rw [asl_in (by omega) (by omega), asl_in (by omega) (by omega)]
        by_cases k0 : s.1 = 0
        · rw [if_neg (fun z => z (by rw [k0]; rfl))]
          refine ⟨_, rfl, next _ ?_⟩
          rw [nI_zi, zi_64 (by omega)]
          unfold opv
          rw [if_pos k0]
        · have k1 : s.1 = 1 := by omega
          rw [if_pos (by rw [k1]; decide)]
          by_cases k2 : s.2 = 0
          · rw [if_neg (fun z => z (by rw [k2]; rfl)), r_cost hN (hc.fr fr (by omega)) hx]
            show ∃ s', (asl 1300 p3 165 (nI st.length) (nI (wCo N x)).toInt64).bind _ = some (Sum.inl s') ∧ _
            rw [asl_in (by omega) (by omega)]
            refine ⟨_, rfl, next _ ?_⟩
            rw [nI_zi, zi_64 (by omega)]
            unfold opv
            rw [if_neg k0, if_pos k2]
          · rw [if_pos (show ¬ nI s.2 = 0 from fun z => k2 ((nI_eq hs2 (by omega)).mp (z.trans i0)))]
            refine ⟨_, rfl, next _ ?_⟩
            rw [nI_zi, zi_64 (by omega)]
            unfold opv
            rw [if_neg k0, if_neg k2]
      · obtain ⟨b, a, r, rfl, ev2⟩ := evs_op hop ev
        have hwd : wdt s = 1 := by unfold wdt; rw [if_neg hop]
        have bb : bnd b := bd b List.mem_cons_self
        have ba : bnd a := bd a (List.mem_cons_of_mem _ List.mem_cons_self)
        have hln : (b :: a :: r).length = r.length + 1 + 1 := rfl
        obtain ⟨k1, k2, k3⟩ := sk
        have k1 : p3.2 165 (r.length + 1) = li b := k1
        rw [if_pos (show (1 : Int32) < nI s.1 from nI_lt (a := 1) (by omega) (by omega)), hln, nI_m1, nI_pred, ldl_in (by rw [hln] at hl; omega) (by rw [hln] at hl; omega), k2]
        show ∃ s', (ldl 1300 p3 165 (nI (r.length + 1))).bind _ = some (Sum.inl s') ∧ _
        rw [ldl_in (by rw [hln] at hl; omega) (by rw [hln] at hl; omega), k1]
        show ∃ s', (F_X8_operate p3 (nI s.1) (li a) (li b)).bind _ = some (Sum.inl s') ∧ _
        rw [r_operate ⟨by omega, hs5⟩ ba bb]
        show ∃ s', (asl 1300 p3 165 (nI r.length) (li (apo s.1 a b))).bind _ = some (Sum.inl s') ∧ _
        rw [asl_in (by rw [hln] at hl; omega) (by rw [hln] at hl; omega)]
        refine ⟨_, rfl, l1 ++ [s], t, apo s.1 a b :: r, by simp, by simp, rfl, ?_, fr.trans (Fr.pul rfl), ⟨?_, SKl_far k3 (fun j hj => ?_)⟩, ev2, fun u hu => ?_, by rw [hln] at hl; rw [List.length_cons]; omega, ?_⟩
        · show nI (offs l1) + (1 : Int32) = _
          rw [nI_1, offs_app]
          show _ = nI (offs l1 + (wdt s + 0))
          rw [hwd]
        · dsimp only
          rw [pul_get, if_pos ⟨rfl, rfl⟩]
        · dsimp only
          rw [pul_get, if_neg (by omega)]
        · rcases List.mem_cons.mp hu with rfl | hu
          · exact apo_bnd ba bb
          · exact bd u (List.mem_cons_of_mem _ (List.mem_cons_of_mem _ hu))
        · rw [offs_app]
          show laid _ (offs l1 + (wdt s + 0)) t
          exact la3
end SRW
