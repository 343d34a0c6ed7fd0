section RIM
variable {h : PH} {N : NT} {P : PT} {H : HT}
theorem pu_0 : (pu h 122 0 (0 : Int32)).1 122 0 = 0 := by rw [pu_get, if_pos ⟨rfl, rfl⟩]
end RIM
