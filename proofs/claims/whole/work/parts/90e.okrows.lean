/-! every row of every method is that of the bytecode -/
set_option maxRecDepth 1000000 in
theorem okM_192 : (List.range 12).all (fun j => if 192 + j = 274 then true else okM (192 + j)) = true := by decide +kernel
set_option maxRecDepth 1000000 in
theorem okM_204 : (List.range 12).all (fun j => if 204 + j = 274 then true else okM (204 + j)) = true := by decide +kernel
set_option maxRecDepth 1000000 in
theorem okM_216 : (List.range 12).all (fun j => if 216 + j = 274 then true else okM (216 + j)) = true := by decide +kernel
