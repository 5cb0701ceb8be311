/-! every row of every method is that of the bytecode -/
set_option maxRecDepth 1000000 in
theorem okLaw_480 : okRows "TenInDrawersLaw" false code p_W_law 480 ((k_W_law.drop 480).take 60) ((a_W_law.drop 480).take 60) = true := by decide +kernel
set_option maxRecDepth 1000000 in
theorem okLaw_540 : okRows "TenInDrawersLaw" false code p_W_law 540 ((k_W_law.drop 540).take 60) ((a_W_law.drop 540).take 60) = true := by decide +kernel
set_option maxRecDepth 1000000 in
theorem okLaw_600 : okRows "TenInDrawersLaw" false code p_W_law 600 ((k_W_law.drop 600).take 60) ((a_W_law.drop 600).take 60) = true := by decide +kernel
set_option maxRecDepth 1000000 in
theorem okLaw_660 : okRows "TenInDrawersLaw" false code p_W_law 660 ((k_W_law.drop 660).take 60) ((a_W_law.drop 660).take 60) = true := by decide +kernel
set_option maxRecDepth 1000000 in
theorem okLaw_720 : okRows "TenInDrawersLaw" false code p_W_law 720 ((k_W_law.drop 720).take 60) ((a_W_law.drop 720).take 60) = true := by decide +kernel
set_option maxRecDepth 1000000 in
theorem okLaw_780 : okRows "TenInDrawersLaw" false code p_W_law 780 ((k_W_law.drop 780).take 60) ((a_W_law.drop 780).take 60) = true := by decide +kernel
set_option maxRecDepth 1000000 in
theorem okLaw_840 : okRows "TenInDrawersLaw" false code p_W_law 840 ((k_W_law.drop 840).take 60) ((a_W_law.drop 840).take 60) = true := by decide +kernel
set_option maxRecDepth 1000000 in
theorem okLaw_900 : okRows "TenInDrawersLaw" false code p_W_law 900 ((k_W_law.drop 900).take 60) ((a_W_law.drop 900).take 60) = true := by decide +kernel
