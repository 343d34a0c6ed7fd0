section OPI
variable {h : PH} {N : NT} {P : PT} {H : HT}
theorem ipl_WP {t k x : Nat} (hp : WP N P) (ht : t < pT P) (hk : k ≤ pL P t) (h13 : pL P t ≤ 13) (hx : x < 2 * wE N) (hu : wTour P (x / 2) = none) (hc : wCand N P t k x = true) : WP N (ipl P t k x) := ⟨ipl_WQ hp.1 ht hk h13 hx, ipl_DS hp.2.1 ht hk rfl hu, ipl_DVs hp.2.2 ht hk hc⟩
end OPI
