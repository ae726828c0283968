set_option maxRecDepth 100000 in
theorem zk_L_law_3 : zca zrecs zr_L_law 300 ((zo_L_law.drop 300).take 100) ((zq_L_law.drop 300).take 100) = true := by decide +kernel
