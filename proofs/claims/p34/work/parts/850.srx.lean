/-! THE CLASS'S EVALUATOR -/
def encS (s : Stq) : Int32 := if s.1 = 0 then nI s.2 else if s.1 = 1 then (if s.2 = 0 then nI 10000 else nI 10001) else -(nI (sgn s.1))
/-- the class's formula is l -/
def CF (h : PH) (l : List Stq) : Prop := h.1 10 2 = nI l.length ∧ l.length ≤ 700 ∧ ∀ i s, l[i]? = some s → h.1 11 i = encS s
theorem CF.same {h h' : PH} {l : List Stq} (c : CF h l) (e0 : h'.1 10 = h.1 10) (e1 : h'.1 11 = h.1 11) : CF h' l := ⟨by rw [e0]; exact c.1, c.2.1, fun i s hs => by rw [e1]; exact c.2.2 i s hs⟩
section SRX
variable {h : PH}
theorem c_value {l : List Stq} {c d : Nat} {v : Int} (hf : CF h l) (hok : ∀ s ∈ l, stOK s) (hc : c ≤ 99) (hd : d ≤ 99) (hv : evs c d l [] = some [v]) : ∃ h', F_X0_valueFor h (nI c) (nI d) = some (zi v, h') ∧ (Fr (fun a => a = 12) h h' ∧ bnd v) := by
  unfold F_X0_valueFor
  refine ex_pr (loop_ind0 (σ := Int32 × Int32 × PH) (fun k s => ∃ (l1 l2 : List Stq) (st : List Int), l = l1 ++ l2 ∧ l1.length = k ∧ s.1 = nI st.length ∧ s.2.1 = nI l1.length ∧ Fr (fun a => a = 12) h s.2.2 ∧ SKi (s.2.2.1 12) st ∧ evs c d l2 st = some [v] ∧ (∀ u ∈ st, bnd u) ∧ st.length ≤ 11) _ l.length
      ⟨[], l, [], rfl, rfl, rfl, rfl, Fr.refl h, trivial, hv, fun u hu => (by cases hu), Nat.zero_le _⟩ ?_)
  rintro k ⟨p1, p2, p3⟩ ⟨l1, l2, st, rfl, rfl, e1, e2, fr, sk, ev, bd, hl⟩
  dsimp only at e1 e2 fr sk ⊢
  subst e1
  subst e2
  have hlen : (l1 ++ l2).length = l1.length + l2.length := List.length_append
  have h700 := hf.2.1
  rw [(fr 10 (by omega)).1, hf.1]
  cases l2 with
  | nil =>
    have hst : st = [v] := Option.some.inj ev
    subst hst
    left
    rw [List.append_nil, if_pos (nI_le (Nat.le_refl _) (by rw [List.append_nil] at h700; omega)), i0, at_in (by omega) (by omega), show p3.1 12 0 = zi v from sk.1]
    exact ⟨_, rfl, rfl, fr, bd v List.mem_cons_self⟩
  | cons s t =>
    have sok : stOK s := hok s (List.mem_append_right _ List.mem_cons_self)
    have hs5 := sok.1
    have hlen2 : (l1 ++ s :: t).length = l1.length + (t.length + 1) := by rw [hlen, List.length_cons]
    right
    refine ⟨by omega, ?_⟩
    have hst : h.1 11 l1.length = encS s := hf.2.2 _ _ (by rw [List.getElem?_append_right (Nat.le_refl _), Nat.sub_self]; rfl)
    have ea : F_X7_at 700 p3 11 (nI l1.length) = encS s := by rw [at_in (by omega) (by omega), (fr 11 (by omega)).1, hst]
    rw [if_neg (nI_ge (by omega) (by omega)), ea]
    unfold encS jn
    dsimp only
    by_cases hop : s.1 ≤ 1
    · obtain ⟨hl2, ev2⟩ := evs_pu hop ev
      have next : ∀ w : Int32, w = zi (opv c d s) → ∃ s', some (Sum.inl (nI st.length + (1 : Int32), nI l1.length + (1 : Int32), F_X7_put 11 p3 12 (nI st.length) w) : (Int32 × Int32 × PH) ⊕ (Int32 × PH)) = some (Sum.inl s') ∧ ∃ (l1' l2' : List Stq) (st' : List Int), l1 ++ s :: t = l1' ++ l2' ∧ l1'.length = l1.length + 1 ∧ s'.1 = nI st'.length ∧ s'.2.1 = nI l1'.length ∧ Fr (fun a => a = 12) h s'.2.2 ∧ SKi (s'.2.2.1 12) st' ∧ evs c d l2' st' = some [v] ∧ (∀ u ∈ st', bnd u) ∧ st'.length ≤ 11 := by
        intro w hw
        refine ⟨_, rfl, l1 ++ [s], t, opv c d s :: st, by simp, by simp, nI_1 _, by simp [nI_1], ?_, ?_, ev2, fun u hu => ?_, by rw [List.length_cons]; omega⟩
        · dsimp only
          rw [put_in (by omega) (by omega)]
          exact fr.trans (Fr.pu rfl)
        · dsimp only
          rw [put_in (by omega) (by omega)]
          refine ⟨?_, SKi_far sk (fun j hj => ?_)⟩
          · rw [pu_get, if_pos ⟨rfl, rfl⟩, hw]
          · rw [pu_get, if_neg (by omega)]
        · rcases List.mem_cons.mp hu with rfl | hu
          · exact opv_bnd (by omega) (by omega) sok hop
          · exact bd u hu
      by_cases k0 : s.1 = 0
      · have h99 := sok.2.1 k0
        have ne1 : ¬ nI s.2 = (10000 : Int32) := fun z => by have := (nI_eq (b := 10000) (by omega) (by omega)).mp z; omega
        have ne2 : ¬ nI s.2 = (10001 : Int32) := fun z => by have := (nI_eq (b := 10001) (by omega) (by omega)).mp z; omega
        rw [if_pos k0, if_pos (nI_pos' (by omega)), if_pos ne1, if_pos ne2]
        refine next _ ?_
        rw [nI_zi]
        unfold opv
        rw [if_pos k0]
      · have k1 : s.1 = 1 := by omega
        rw [if_neg k0, if_pos k1]
        by_cases k2 : s.2 = 0
        · rw [if_pos k2, if_pos (by decide), if_neg (fun z => z rfl)]
          refine next _ ?_
          rw [nI_zi]
          unfold opv
          rw [if_neg k0, if_pos k2]
        · rw [if_neg k2, if_pos (by decide), if_pos (by decide), if_neg (fun z => z rfl)]
          refine next _ ?_
          rw [nI_zi]
          unfold opv
          rw [if_neg k0, if_neg k2]
    · obtain ⟨b, a, r, rfl, ev2⟩ := evs_op hop ev
      have bb : bnd b := bd b List.mem_cons_self
      have ba : bnd a := bd a (List.mem_cons_of_mem _ List.mem_cons_self)
      have hln : (b :: a :: r).length = r.length + 1 + 1 := rfl
      rw [hln] at hl
      obtain ⟨k1, k2, k3⟩ := sk
      have k1 : p3.1 12 (r.length + 1) = zi b := k1
      have hsg : sgn s.1 < 100 := by unfold sgn; split <;> (try split) <;> (try split) <;> omega
      have hsg0 : 0 < sgn s.1 := by unfold sgn; split <;> (try split) <;> (try split) <;> omega
      have neg : ¬ (0 : Int32) ≤ -(nI (sgn s.1)) := by
        rw [nI_zi, zi_neg]
        show ¬ zi 0 ≤ _
        rw [zi_le (by omega) (by omega)]
        omega
      have nn : -(-(nI (sgn s.1))) = nI (sgn s.1) := by rw [nI_zi, zi_neg, zi_neg, Int.neg_neg]
      have z0 : ¬ s.1 = 0 := by omega
      have z1 : ¬ s.1 = 1 := by omega
      rw [if_neg z0, if_neg z1, if_neg neg, nn, hln, nI_m1, nI_pred, at_in (by omega) (by omega), at_in (by omega) (by omega), k1, k2, c_applied ⟨by omega, hs5⟩ ba bb]
      refine ⟨_, rfl, l1 ++ [s], t, apo s.1 a b :: r, by simp, by simp, rfl, by simp [nI_1], ?_, ?_, ev2, fun u hu => ?_, by rw [List.length_cons]; omega⟩
      · dsimp only
        rw [put_in (by omega) (by omega)]
        exact fr.trans (Fr.pu rfl)
      · dsimp only
        rw [put_in (by omega) (by omega)]
        refine ⟨?_, SKi_far k3 (fun j hj => ?_)⟩
        · rw [pu_get, if_pos ⟨rfl, rfl⟩]
        · rw [pu_get, if_neg (by omega)]
      · rcases List.mem_cons.mp hu with rfl | hu
        · exact apo_bnd ba bb
        · exact bd u (List.mem_cons_of_mem _ (List.mem_cons_of_mem _ hu))
end SRX
