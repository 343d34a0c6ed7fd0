section SUM
variable {b : Nat → Nat} {n : Nat} {g r : PH}
theorem term_RQ {S : PH → Option PH} : RQ (F_X8_term S) := fun r h => by
  unfold F_X8_term
  rw [fac_RQ r h, Option.bind_some]
  refine loop_to (fun _ => r) 0 rfl (fun k hk => absurd hk (Nat.not_lt_zero _)) ?_
  rw [good_1 h, if_pos rfl]
theorem sum_RQ {m : Nat} (hm : 0 < m) : RQ (R_X8_sum m) := fun r h => by
  obtain ⟨m', rfl⟩ : ∃ m', m = m' + 1 := ⟨m - 1, by omega⟩
  show F_X8_sum (R_X8_sum m') r = some r
  unfold F_X8_sum
  rw [term_RQ r h, Option.bind_some]
  refine loop_to (fun _ => r) 0 rfl (fun k hk => absurd hk (Nat.not_lt_zero _)) ?_
  rw [good_1 h, if_pos rfl]
theorem term_ok {d : Nat} {Sc : PH → Int32 → Option PH} {Sr : PH → Option PH} (hn : n ≤ 700) (hb : ∀ j, b j < 256) (hd : d ≤ 4) (HS : d < 4 → PF b n (d + 1) (2 * (d + 1)) Sc Sr) (HB : RQ Sr) : PF b n d (2 * d + 1) (F_X6_readTerm Sc) (F_X8_term Sr) :=
  chain_ok (oa := 4) (ob := 5) hn hb (fac_ok hn hb hd HS HB) fac_RQ (opC_ok 4 (by omega) (by omega)) (opC_ok 5 (by omega) (by omega)) (by decide) (by omega)
theorem sum_ok (hn : n ≤ 700) (hb : ∀ j, b j < 256) : ∀ (m d : Nat), d ≤ 4 → 6 ≤ m + d → PF b n d (2 * d) (R_X6_readSum m) (R_X8_sum m)
  | 0, d, h1, h2 => by omega
  | m + 1, d, h1, h2 => chain_ok (oa := 2) (ob := 3) hn hb (term_ok hn hb h1 (fun hd => sum_ok hn hb m (d + 1) (by omega) (by omega)) (sum_RQ (by omega))) term_RQ (opC_ok 2 (by omega) (by omega)) (opC_ok 3 (by omega) (by omega)) (by decide) (by omega)
end SUM
