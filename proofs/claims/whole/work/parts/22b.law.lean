/-! the entries of the law itself -/
theorem chkL_0 : (List.range 100).all (fun i => match (miOf 221).1 (0 + i) with | none => true | some e => chkE 221 (0 + i) e) = true := by decide +kernel
theorem chkL_1 : (List.range 100).all (fun i => match (miOf 221).1 (100 + i) with | none => true | some e => chkE 221 (100 + i) e) = true := by decide +kernel
theorem chkL_2 : (List.range 100).all (fun i => match (miOf 221).1 (200 + i) with | none => true | some e => chkE 221 (200 + i) e) = true := by decide +kernel
theorem chkL_3 : (List.range 100).all (fun i => match (miOf 221).1 (300 + i) with | none => true | some e => chkE 221 (300 + i) e) = true := by decide +kernel
theorem chkL_4 : (List.range 100).all (fun i => match (miOf 221).1 (400 + i) with | none => true | some e => chkE 221 (400 + i) e) = true := by decide +kernel
theorem chkL_5 : (List.range 100).all (fun i => match (miOf 221).1 (500 + i) with | none => true | some e => chkE 221 (500 + i) e) = true := by decide +kernel
theorem chkL_6 : (List.range 100).all (fun i => match (miOf 221).1 (600 + i) with | none => true | some e => chkE 221 (600 + i) e) = true := by decide +kernel
theorem chkL_7 : (List.range 100).all (fun i => match (miOf 221).1 (700 + i) with | none => true | some e => chkE 221 (700 + i) e) = true := by decide +kernel
theorem chkL_8 : (List.range 100).all (fun i => match (miOf 221).1 (800 + i) with | none => true | some e => chkE 221 (800 + i) e) = true := by decide +kernel
theorem chkL_9 : (List.range 100).all (fun i => match (miOf 221).1 (900 + i) with | none => true | some e => chkE 221 (900 + i) e) = true := by decide +kernel
theorem chkL_10 : (List.range 100).all (fun i => match (miOf 221).1 (1000 + i) with | none => true | some e => chkE 221 (1000 + i) e) = true := by decide +kernel
theorem chkL_11 : (List.range 100).all (fun i => match (miOf 221).1 (1100 + i) with | none => true | some e => chkE 221 (1100 + i) e) = true := by decide +kernel
theorem chkL_12 : (List.range 100).all (fun i => match (miOf 221).1 (1200 + i) with | none => true | some e => chkE 221 (1200 + i) e) = true := by decide +kernel
theorem chkL_13 : (List.range 100).all (fun i => match (miOf 221).1 (1300 + i) with | none => true | some e => chkE 221 (1300 + i) e) = true := by decide +kernel
theorem chkL_14 : (List.range 100).all (fun i => match (miOf 221).1 (1400 + i) with | none => true | some e => chkE 221 (1400 + i) e) = true := by decide +kernel
