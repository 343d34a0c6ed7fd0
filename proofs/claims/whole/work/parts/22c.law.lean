theorem chkL_15 : (List.range 100).all (fun i => match (miOf 221).1 (1500 + i) with | none => true | some e => chkE 221 (1500 + i) e) = true := by decide +kernel
theorem lenL : lenOf 221 ≤ 1600 := by decide +kernel
