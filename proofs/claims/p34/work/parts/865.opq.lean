/-! THE CALLS THAT ONLY ASK -/
section OPQ
variable {h : PH} {N : NT} {P : PT} {H : HT}
theorem bs_r {β γ : Type} (f : Nat → Option γ) (g : β → Option γ) (x : β) : bsum f g (.inr x) = g x := rfl
theorem bs_l {β γ : Type} (f : Nat → Option γ) (g : β → Option γ) (x : Nat) : bsum f g (.inl x) = f x := rfl
theorem none_en {o : Option Nat} (hb : ∀ v, o = some v → v < 100000000) : F_X7_orNone h (nI (en 100000000 o)) = eA o := by
  unfold F_X7_orNone
  rw [iM]
  cases o with
  | none => exact if_neg (fun z => Int32.lt_irrefl z)
  | some v => exact if_pos (nI_lt (hb v rfl) (by omega))
end OPQ
