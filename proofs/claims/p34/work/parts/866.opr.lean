section OPR
variable {h : PH} {N : NT} {P : PT} {H : HT}
theorem wt_none {e : Nat} (y : wWt N P e = true) : wTour P e = none := by
  unfold wWt at y
  rw [Bool.and_eq_true, Option.isNone_iff_eq_none] at y
  exact y.2
end OPR
