/-! every row of every method is that of the bytecode -/
set_option maxRecDepth 1000000 in
theorem okM_264 : (List.range 12).all (fun j => if 264 + j = 274 then true else okM (264 + j)) = true := by decide +kernel
