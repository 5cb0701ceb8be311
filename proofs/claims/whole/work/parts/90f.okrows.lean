/-! every row of every method is that of the bytecode -/
set_option maxRecDepth 1000000 in
theorem okM_228 : (List.range 12).all (fun j => if 228 + j = 274 then true else okM (228 + j)) = true := by decide +kernel
set_option maxRecDepth 1000000 in
theorem okM_240 : (List.range 12).all (fun j => if 240 + j = 274 then true else okM (240 + j)) = true := by decide +kernel
set_option maxRecDepth 1000000 in
theorem okM_252 : (List.range 12).all (fun j => if 252 + j = 274 then true else okM (252 + j)) = true := by decide +kernel
