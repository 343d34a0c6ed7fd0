/-! THE SETUP'S HEAD, both sides -/
theorem loop_run {σ τ : Type} {body : σ → Option (σ ⊕ τ)} (S : Nat → σ) : ∀ (N : Nat), (∀ k, k < N → body (S k) = some (.inl (S (k + 1)))) → loop body (S 0) = loop body (S N)
  | 0, _ => rfl
  | N + 1, h => by
    rw [loop_run S N (fun k hk => h k (by omega)), loop_eq, h N (by omega)]
    rfl
def zr (r : PH) (k : Nat) : PH := (fun i j => if i = 125 ∧ j < k then 0 else r.1 i j, r.2)
def net0 (a c : Nat) : NT := (fun i j => if i = 0 then (if j = 0 then a else if j = 1 then c else 0) else 0, fun _ => 0)
section HED
variable {b : Nat → Nat} {n : Nat} {g r : PH}
theorem zr_s {k : Nat} : pu (zr r k) 125 k 0 = zr r (k + 1) := by
  refine Prod.ext ?_ rfl
  funext i j
  show (pu (zr r k) 125 k 0).1 i j = _
  rw [pu_get]
  show (if i = 125 ∧ j = k then (0 : Int32) else if i = 125 ∧ j < k then 0 else r.1 i j) = if i = 125 ∧ j < k + 1 then 0 else r.1 i j
  by_cases z : i = 125 ∧ j = k
  · rw [if_pos z, if_pos ⟨z.1, by omega⟩]
  · rw [if_neg z]
    by_cases y : i = 125 ∧ j < k
    · rw [if_pos y, if_pos ⟨y.1, by omega⟩]
    · rw [if_neg y, if_neg (fun w => by
        by_cases q : j = k
        · exact z ⟨w.1, q⟩
        · exact y ⟨w.1, by omega⟩)]
theorem zr_o {k i : Nat} (h : i ≠ 125) : (zr r k).1 i = r.1 i := by
  funext j
  show (if i = 125 ∧ j < k then (0 : Int32) else r.1 i j) = _
  rw [if_neg (fun z => h z.1)]
theorem zr_in {k j : Nat} (h : j < k) : (zr r k).1 125 j = 0 := if_pos ⟨rfl, h⟩
end HED
