set_option maxRecDepth 100000 in
theorem zk_L_law_5 : zca zrecs zr_L_law 500 ((zo_L_law.drop 500).take 100) ((zq_L_law.drop 500).take 100) = true := by decide +kernel
