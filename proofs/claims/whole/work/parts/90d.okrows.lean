/-! every row of every method is that of the bytecode -/
set_option maxRecDepth 1000000 in
theorem okM_144 : (List.range 12).all (fun j => if 144 + j = 274 then true else okM (144 + j)) = true := by decide +kernel
set_option maxRecDepth 1000000 in
theorem okM_156 : (List.range 12).all (fun j => if 156 + j = 274 then true else okM (156 + j)) = true := by decide +kernel
set_option maxRecDepth 1000000 in
theorem okM_168 : (List.range 12).all (fun j => if 168 + j = 274 then true else okM (168 + j)) = true := by decide +kernel
set_option maxRecDepth 1000000 in
theorem okM_180 : (List.range 12).all (fun j => if 180 + j = 274 then true else okM (180 + j)) = true := by decide +kernel
