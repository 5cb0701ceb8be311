/-! every row of every method is that of the bytecode -/
set_option maxRecDepth 1000000 in
theorem okM_48 : (List.range 12).all (fun j => if 48 + j = 274 then true else okM (48 + j)) = true := by decide +kernel
set_option maxRecDepth 1000000 in
theorem okM_60 : (List.range 12).all (fun j => if 60 + j = 274 then true else okM (60 + j)) = true := by decide +kernel
set_option maxRecDepth 1000000 in
theorem okM_72 : (List.range 12).all (fun j => if 72 + j = 274 then true else okM (72 + j)) = true := by decide +kernel
set_option maxRecDepth 1000000 in
theorem okM_84 : (List.range 12).all (fun j => if 84 + j = 274 then true else okM (84 + j)) = true := by decide +kernel
