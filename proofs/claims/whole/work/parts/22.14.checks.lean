set_option maxRecDepth 100000 in
theorem zk_L_law_4 : zca zrecs zr_L_law 400 ((zo_L_law.drop 400).take 100) ((zq_L_law.drop 400).take 100) = true := by decide +kernel
