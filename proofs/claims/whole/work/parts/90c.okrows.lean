/-! every row of every method is that of the bytecode -/
set_option maxRecDepth 1000000 in
theorem okM_96 : (List.range 12).all (fun j => if 96 + j = 274 then true else okM (96 + j)) = true := by decide +kernel
set_option maxRecDepth 1000000 in
theorem okM_108 : (List.range 12).all (fun j => if 108 + j = 274 then true else okM (108 + j)) = true := by decide +kernel
set_option maxRecDepth 1000000 in
theorem okM_120 : (List.range 12).all (fun j => if 120 + j = 274 then true else okM (120 + j)) = true := by decide +kernel
set_option maxRecDepth 1000000 in
theorem okM_132 : (List.range 12).all (fun j => if 132 + j = 274 then true else okM (132 + j)) = true := by decide +kernel
