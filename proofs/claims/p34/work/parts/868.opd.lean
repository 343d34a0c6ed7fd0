section OPD
variable {h : PH} {N : NT} {P : PT} {H : HT}
theorem S3_of {g g2 g3 : PH} (a : Fr S124 g g2) (b : Fr S165 g2 g3) : Fr S3 g g3 := (a.mono (fun i hi => Or.inl hi)).trans (b.mono (fun i hi => Or.inr hi))
theorem S3_ok : ∀ i, S3 i → 124 ≤ i ∧ ¬ (128 ≤ i ∧ i ≤ 135) ∧ i ≤ 165 := fun i hi => by unfold S3 at hi; omega
theorem S3_ok2 : ∀ i, S3 i → 124 ≤ i ∧ i ≤ 165 := fun i hi => by unfold S3 at hi; omega
end OPD
