/-! every row of every method is that of the bytecode -/
set_option maxRecDepth 1000000 in
theorem okLaw_960 : okRows "TenInDrawersLaw" false code p_W_law 960 ((k_W_law.drop 960).take 60) ((a_W_law.drop 960).take 60) = true := by decide +kernel
set_option maxRecDepth 1000000 in
theorem okLaw_1020 : okRows "TenInDrawersLaw" false code p_W_law 1020 ((k_W_law.drop 1020).take 60) ((a_W_law.drop 1020).take 60) = true := by decide +kernel
set_option maxRecDepth 1000000 in
theorem okLaw_1080 : okRows "TenInDrawersLaw" false code p_W_law 1080 ((k_W_law.drop 1080).take 60) ((a_W_law.drop 1080).take 60) = true := by decide +kernel
