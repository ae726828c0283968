set_option maxRecDepth 100000 in
theorem zk_L_law_0 : zca zrecs zr_L_law 0 ((zo_L_law.drop 0).take 100) ((zq_L_law.drop 0).take 100) = true := by decide +kernel
