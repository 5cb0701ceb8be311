/-! every row of every method is that of the bytecode -/
set_option maxRecDepth 1000000 in
theorem okLaw_0 : okRows "TenInDrawersLaw" false code p_W_law 0 ((k_W_law.drop 0).take 60) ((a_W_law.drop 0).take 60) = true := by decide +kernel
set_option maxRecDepth 1000000 in
theorem okLaw_60 : okRows "TenInDrawersLaw" false code p_W_law 60 ((k_W_law.drop 60).take 60) ((a_W_law.drop 60).take 60) = true := by decide +kernel
set_option maxRecDepth 1000000 in
theorem okLaw_120 : okRows "TenInDrawersLaw" false code p_W_law 120 ((k_W_law.drop 120).take 60) ((a_W_law.drop 120).take 60) = true := by decide +kernel
set_option maxRecDepth 1000000 in
theorem okLaw_180 : okRows "TenInDrawersLaw" false code p_W_law 180 ((k_W_law.drop 180).take 60) ((a_W_law.drop 180).take 60) = true := by decide +kernel
set_option maxRecDepth 1000000 in
theorem okLaw_240 : okRows "TenInDrawersLaw" false code p_W_law 240 ((k_W_law.drop 240).take 60) ((a_W_law.drop 240).take 60) = true := by decide +kernel
set_option maxRecDepth 1000000 in
theorem okLaw_300 : okRows "TenInDrawersLaw" false code p_W_law 300 ((k_W_law.drop 300).take 60) ((a_W_law.drop 300).take 60) = true := by decide +kernel
set_option maxRecDepth 1000000 in
theorem okLaw_360 : okRows "TenInDrawersLaw" false code p_W_law 360 ((k_W_law.drop 360).take 60) ((a_W_law.drop 360).take 60) = true := by decide +kernel
set_option maxRecDepth 1000000 in
theorem okLaw_420 : okRows "TenInDrawersLaw" false code p_W_law 420 ((k_W_law.drop 420).take 60) ((a_W_law.drop 420).take 60) = true := by decide +kernel
