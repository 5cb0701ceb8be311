/-! every row of every method is that of the bytecode -/
set_option maxRecDepth 1000000 in
theorem okM_0 : (List.range 12).all (fun j => if 0 + j = 274 then true else okM (0 + j)) = true := by decide +kernel
set_option maxRecDepth 1000000 in
theorem okM_12 : (List.range 12).all (fun j => if 12 + j = 274 then true else okM (12 + j)) = true := by decide +kernel
set_option maxRecDepth 1000000 in
theorem okM_24 : (List.range 12).all (fun j => if 24 + j = 274 then true else okM (24 + j)) = true := by decide +kernel
set_option maxRecDepth 1000000 in
theorem okM_36 : (List.range 12).all (fun j => if 36 + j = 274 then true else okM (36 + j)) = true := by decide +kernel
