/-! THE CALLS THAT THROW NOTHING -/
section OPX
variable {h : PH} {N : NT} {P : PT} {H : HT} {L T : Nat} {xs : Nat → Int32} {j : Int32}
/-! the checksum -/
def ckC (P : PT) (t : Nat) : Nat → Nat
  | 0 => pH P t
  | 1 => pL P t
  | k + 2 => pA P t k
def ckR (P : PT) (t : Nat) (s : Int64) : Nat → Int64
  | 0 => s
  | k + 1 => (31 : Int64) * ckR P t s k + (nI (ckC P t k)).toInt64
def ckT (N : NT) (P : PT) : Nat → Int64
  | 0 => (31 : Int64) * (nI (wTot N P)).toInt64 + (nI (wUn N P)).toInt64
  | t + 1 => ckR P t (ckT N P t) (2 + pL P t)
theorem c_check (ok : okS N P H) (ca : CA h N P) : F_X7_checksum h = some (ckT N P (pT P)) := by
  obtain ⟨hN9, hp, hw⟩ := ok
  have h4 := hp.1.1
  unfold F_X7_checksum
  rw [c_total hN9 hp.1 hp.2.2 ca.1 ca.2.1 ca.2.2, Option.bind_some, c_unserved hN9 hp.1 ca.1 ca.2.2, Option.bind_some]
  refine loop_to (fun t => (ckT N P t, nI t)) (pT P) rfl (fun t ht => ?_) ?_
  · have h14 := (hp.1.2 t ht).2.1
    dsimp only
    rw [ca.2.2.1, if_neg (nI_ge ht (by omega)), c_home ca.2.2 ht h4, c_size ca.2.2 ht h4]
    refine loop_to (fun k => (ckR P t (ckT N P t) (2 + k), nI k)) (pL P t) rfl (fun k hk => ?_) ?_
    · dsimp only
      have e1 : F_X3_arcOrDepot h (nI t) (nI k) = nI (pA P t k) := by
        rw [c_nx hp.1 ca.2.2 ht (by omega)]
        unfold nx
        rw [if_pos hk]
        rfl
      rw [if_neg (nI_ge hk (by omega)), e1, nI_1]
      have e2 : ckC P t (2 + k) = pA P t k := by rw [Nat.add_comm]; rfl
      have e3 : ckR P t (ckT N P t) (2 + (k + 1)) = (31 : Int64) * ckR P t (ckT N P t) (2 + k) + (nI (ckC P t (2 + k))).toInt64 := rfl
      rw [e3, e2]
    · dsimp only
      rw [if_pos (nI_le (Nat.le_refl _) (by omega)), nI_1]
      rfl
  · dsimp only
    rw [ca.2.2.1, if_pos (nI_le (Nat.le_refl _) (by omega))]
/-! whether a turn is allowed -/
end OPX
