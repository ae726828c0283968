set_option maxRecDepth 100000 in
theorem zk_X5_search : zca zrecs zr_X5_search 0 zo_X5_search zq_X5_search = true := by decide +kernel
theorem zd_X5_search : zdown 80 zo_X5_search = true := by decide +kernel
set_option maxRecDepth 100000 in
theorem zc_X5_search : Jvm.Cond.code (zMy zr_X5_search) (zMb zr_X5_search) (zMl zr_X5_search) (zMr zr_X5_search) ∈ zgt ∧ Jvm.Cond.initialized (zMy zr_X5_search).cls ∈ zgt ∧ plainFor (zMy zr_X5_search) = true := ⟨zg_of (List.mem_of_getElem? (i := 925) (by rfl)) rfl, zg_of (List.mem_of_getElem? (i := 105) (by rfl)) rfl, by decide +kernel⟩
set_option maxRecDepth 100000 in
theorem zk_X5_spell : zca zrecs zr_X5_spell 0 zo_X5_spell zq_X5_spell = true := by decide +kernel
theorem zd_X5_spell : zdown 81 zo_X5_spell = true := by decide +kernel
set_option maxRecDepth 100000 in
theorem zc_X5_spell : Jvm.Cond.code (zMy zr_X5_spell) (zMb zr_X5_spell) (zMl zr_X5_spell) (zMr zr_X5_spell) ∈ zgt ∧ Jvm.Cond.initialized (zMy zr_X5_spell).cls ∈ zgt ∧ plainFor (zMy zr_X5_spell) = true := ⟨zg_of (List.mem_of_getElem? (i := 934) (by rfl)) rfl, zg_of (List.mem_of_getElem? (i := 105) (by rfl)) rfl, by decide +kernel⟩
set_option maxRecDepth 100000 in
theorem zk_X5_differ : zca zrecs zr_X5_differ 0 zo_X5_differ zq_X5_differ = true := by decide +kernel
theorem zd_X5_differ : zdown 82 zo_X5_differ = true := by decide +kernel
set_option maxRecDepth 100000 in
theorem zc_X5_differ : Jvm.Cond.code (zMy zr_X5_differ) (zMb zr_X5_differ) (zMl zr_X5_differ) (zMr zr_X5_differ) ∈ zgt ∧ Jvm.Cond.initialized (zMy zr_X5_differ).cls ∈ zgt ∧ plainFor (zMy zr_X5_differ) = true := ⟨zg_of (List.mem_of_getElem? (i := 917) (by rfl)) rfl, zg_of (List.mem_of_getElem? (i := 105) (by rfl)) rfl, by decide +kernel⟩
set_option maxRecDepth 100000 in
theorem zk_X6_init : zca zrecs zr_X6_init 0 zo_X6_init zq_X6_init = true := by decide +kernel
theorem zd_X6_init : zdown 83 zo_X6_init = true := by decide +kernel
set_option maxRecDepth 100000 in
theorem zc_X6_init : Jvm.Cond.code (zMy zr_X6_init) (zMb zr_X6_init) (zMl zr_X6_init) (zMr zr_X6_init) ∈ zgt ∧ Jvm.Cond.initialized (zMy zr_X6_init).cls ∈ zgt ∧ plainFor (zMy zr_X6_init) = true := ⟨zg_of (List.mem_of_getElem? (i := 461) (by rfl)) rfl, zg_of (List.mem_of_getElem? (i := 109) (by rfl)) rfl, by decide +kernel⟩
set_option maxRecDepth 100000 in
theorem zk_X6_gather : zca zrecs zr_X6_gather 0 zo_X6_gather zq_X6_gather = true := by decide +kernel
theorem zd_X6_gather : zdown 84 zo_X6_gather = true := by decide +kernel
set_option maxRecDepth 100000 in
theorem zc_X6_gather : Jvm.Cond.code (zMy zr_X6_gather) (zMb zr_X6_gather) (zMl zr_X6_gather) (zMr zr_X6_gather) ∈ zgt ∧ Jvm.Cond.initialized (zMy zr_X6_gather).cls ∈ zgt ∧ plainFor (zMy zr_X6_gather) = true := ⟨zg_of (List.mem_of_getElem? (i := 1021) (by rfl)) rfl, zg_of (List.mem_of_getElem? (i := 109) (by rfl)) rfl, by decide +kernel⟩
set_option maxRecDepth 100000 in
theorem zk_X6_isMade : zca zrecs zr_X6_isMade 0 zo_X6_isMade zq_X6_isMade = true := by decide +kernel
theorem zd_X6_isMade : zdown 85 zo_X6_isMade = true := by decide +kernel
set_option maxRecDepth 100000 in
theorem zc_X6_isMade : Jvm.Cond.code (zMy zr_X6_isMade) (zMb zr_X6_isMade) (zMl zr_X6_isMade) (zMr zr_X6_isMade) ∈ zgt ∧ Jvm.Cond.initialized (zMy zr_X6_isMade).cls ∈ zgt ∧ plainFor (zMy zr_X6_isMade) = true := ⟨zg_of (List.mem_of_getElem? (i := 1010) (by rfl)) rfl, zg_of (List.mem_of_getElem? (i := 109) (by rfl)) rfl, by decide +kernel⟩
set_option maxRecDepth 100000 in
theorem zk_X6_place : zca zrecs zr_X6_place 0 zo_X6_place zq_X6_place = true := by decide +kernel
theorem zd_X6_place : zdown 86 zo_X6_place = true := by decide +kernel
set_option maxRecDepth 100000 in
theorem zc_X6_place : Jvm.Cond.code (zMy zr_X6_place) (zMb zr_X6_place) (zMl zr_X6_place) (zMr zr_X6_place) ∈ zgt ∧ Jvm.Cond.initialized (zMy zr_X6_place).cls ∈ zgt ∧ plainFor (zMy zr_X6_place) = true := ⟨zg_of (List.mem_of_getElem? (i := 1006) (by rfl)) rfl, zg_of (List.mem_of_getElem? (i := 109) (by rfl)) rfl, by decide +kernel⟩
set_option maxRecDepth 100000 in
theorem zk_X6_writeCommon : zca zrecs zr_X6_writeCommon 0 zo_X6_writeCommon zq_X6_writeCommon = true := by decide +kernel
theorem zd_X6_writeCommon : zdown 87 zo_X6_writeCommon = true := by decide +kernel
set_option maxRecDepth 100000 in
theorem zc_X6_writeCommon : Jvm.Cond.code (zMy zr_X6_writeCommon) (zMb zr_X6_writeCommon) (zMl zr_X6_writeCommon) (zMr zr_X6_writeCommon) ∈ zgt ∧ Jvm.Cond.initialized (zMy zr_X6_writeCommon).cls ∈ zgt ∧ plainFor (zMy zr_X6_writeCommon) = true := ⟨zg_of (List.mem_of_getElem? (i := 1026) (by rfl)) rfl, zg_of (List.mem_of_getElem? (i := 109) (by rfl)) rfl, by decide +kernel⟩
set_option maxRecDepth 100000 in
theorem zk_X6_lead : zca zrecs zr_X6_lead 0 zo_X6_lead zq_X6_lead = true := by decide +kernel
theorem zd_X6_lead : zdown 88 zo_X6_lead = true := by decide +kernel
set_option maxRecDepth 100000 in
theorem zc_X6_lead : Jvm.Cond.code (zMy zr_X6_lead) (zMb zr_X6_lead) (zMl zr_X6_lead) (zMr zr_X6_lead) ∈ zgt ∧ Jvm.Cond.initialized (zMy zr_X6_lead).cls ∈ zgt ∧ plainFor (zMy zr_X6_lead) = true := ⟨zg_of (List.mem_of_getElem? (i := 1017) (by rfl)) rfl, zg_of (List.mem_of_getElem? (i := 109) (by rfl)) rfl, by decide +kernel⟩
set_option maxRecDepth 100000 in
theorem zk_X6_make : zca zrecs zr_X6_make 0 zo_X6_make zq_X6_make = true := by decide +kernel
theorem zd_X6_make : zdown 89 zo_X6_make = true := by decide +kernel
set_option maxRecDepth 100000 in
theorem zc_X6_make : Jvm.Cond.code (zMy zr_X6_make) (zMb zr_X6_make) (zMl zr_X6_make) (zMr zr_X6_make) ∈ zgt ∧ Jvm.Cond.initialized (zMy zr_X6_make).cls ∈ zgt ∧ plainFor (zMy zr_X6_make) = true := ⟨zg_of (List.mem_of_getElem? (i := 1000) (by rfl)) rfl, zg_of (List.mem_of_getElem? (i := 109) (by rfl)) rfl, by decide +kernel⟩
set_option maxRecDepth 100000 in
theorem zk_X7_init : zca zrecs zr_X7_init 0 zo_X7_init zq_X7_init = true := by decide +kernel
theorem zd_X7_init : zdown 90 zo_X7_init = true := by decide +kernel
set_option maxRecDepth 100000 in
theorem zc_X7_init : Jvm.Cond.code (zMy zr_X7_init) (zMb zr_X7_init) (zMl zr_X7_init) (zMr zr_X7_init) ∈ zgt ∧ Jvm.Cond.initialized (zMy zr_X7_init).cls ∈ zgt ∧ plainFor (zMy zr_X7_init) = true := ⟨zg_of (List.mem_of_getElem? (i := 426) (by rfl)) rfl, zg_of (List.mem_of_getElem? (i := 108) (by rfl)) rfl, by decide +kernel⟩
set_option maxRecDepth 100000 in
theorem zk_X7_keep : zca zrecs zr_X7_keep 0 zo_X7_keep zq_X7_keep = true := by decide +kernel
theorem zd_X7_keep : zdown 91 zo_X7_keep = true := by decide +kernel
set_option maxRecDepth 100000 in
theorem zc_X7_keep : Jvm.Cond.code (zMy zr_X7_keep) (zMb zr_X7_keep) (zMl zr_X7_keep) (zMr zr_X7_keep) ∈ zgt ∧ Jvm.Cond.initialized (zMy zr_X7_keep).cls ∈ zgt ∧ plainFor (zMy zr_X7_keep) = true := ⟨zg_of (List.mem_of_getElem? (i := 976) (by rfl)) rfl, zg_of (List.mem_of_getElem? (i := 108) (by rfl)) rfl, by decide +kernel⟩
set_option maxRecDepth 100000 in
theorem zk_X7_longestArc : zca zrecs zr_X7_longestArc 0 zo_X7_longestArc zq_X7_longestArc = true := by decide +kernel
theorem zd_X7_longestArc : zdown 92 zo_X7_longestArc = true := by decide +kernel
set_option maxRecDepth 100000 in
theorem zc_X7_longestArc : Jvm.Cond.code (zMy zr_X7_longestArc) (zMb zr_X7_longestArc) (zMl zr_X7_longestArc) (zMr zr_X7_longestArc) ∈ zgt ∧ Jvm.Cond.initialized (zMy zr_X7_longestArc).cls ∈ zgt ∧ plainFor (zMy zr_X7_longestArc) = true := ⟨zg_of (List.mem_of_getElem? (i := 967) (by rfl)) rfl, zg_of (List.mem_of_getElem? (i := 108) (by rfl)) rfl, by decide +kernel⟩
set_option maxRecDepth 100000 in
theorem zk_J6_bitCount_0f7a4 : zca zrecs zr_J6_bitCount_0f7a4 0 zo_J6_bitCount_0f7a4 zq_J6_bitCount_0f7a4 = true := by decide +kernel
theorem zd_J6_bitCount_0f7a4 : zdown 93 zo_J6_bitCount_0f7a4 = true := by decide +kernel
set_option maxRecDepth 100000 in
theorem zc_J6_bitCount_0f7a4 : Jvm.Cond.code (zMy zr_J6_bitCount_0f7a4) (zMb zr_J6_bitCount_0f7a4) (zMl zr_J6_bitCount_0f7a4) (zMr zr_J6_bitCount_0f7a4) ∈ zgt ∧ Jvm.Cond.initialized (zMy zr_J6_bitCount_0f7a4).cls ∈ zgt ∧ plainFor (zMy zr_J6_bitCount_0f7a4) = true := ⟨zg_of (List.mem_of_getElem? (i := 695) (by rfl)) rfl, zg_of (List.mem_of_getElem? (i := 113) (by rfl)) rfl, by decide +kernel⟩
set_option maxRecDepth 100000 in
theorem zk_X7_begin : zca zrecs zr_X7_begin 0 zo_X7_begin zq_X7_begin = true := by decide +kernel
theorem zd_X7_begin : zdown 94 zo_X7_begin = true := by decide +kernel
set_option maxRecDepth 100000 in
theorem zc_X7_begin : Jvm.Cond.code (zMy zr_X7_begin) (zMb zr_X7_begin) (zMl zr_X7_begin) (zMr zr_X7_begin) ∈ zgt ∧ Jvm.Cond.initialized (zMy zr_X7_begin).cls ∈ zgt ∧ plainFor (zMy zr_X7_begin) = true := ⟨zg_of (List.mem_of_getElem? (i := 962) (by rfl)) rfl, zg_of (List.mem_of_getElem? (i := 108) (by rfl)) rfl, by decide +kernel⟩
set_option maxRecDepth 100000 in
theorem zk_X7_pairUp : zca zrecs zr_X7_pairUp 0 zo_X7_pairUp zq_X7_pairUp = true := by decide +kernel
theorem zd_X7_pairUp : zdown 95 zo_X7_pairUp = true := by decide +kernel
set_option maxRecDepth 100000 in
theorem zc_X7_pairUp : Jvm.Cond.code (zMy zr_X7_pairUp) (zMb zr_X7_pairUp) (zMl zr_X7_pairUp) (zMr zr_X7_pairUp) ∈ zgt ∧ Jvm.Cond.initialized (zMy zr_X7_pairUp).cls ∈ zgt ∧ plainFor (zMy zr_X7_pairUp) = true := ⟨zg_of (List.mem_of_getElem? (i := 995) (by rfl)) rfl, zg_of (List.mem_of_getElem? (i := 108) (by rfl)) rfl, by decide +kernel⟩
set_option maxRecDepth 100000 in
theorem zk_X7_lead : zca zrecs zr_X7_lead 0 zo_X7_lead zq_X7_lead = true := by decide +kernel
theorem zd_X7_lead : zdown 96 zo_X7_lead = true := by decide +kernel
set_option maxRecDepth 100000 in
theorem zc_X7_lead : Jvm.Cond.code (zMy zr_X7_lead) (zMb zr_X7_lead) (zMl zr_X7_lead) (zMr zr_X7_lead) ∈ zgt ∧ Jvm.Cond.initialized (zMy zr_X7_lead).cls ∈ zgt ∧ plainFor (zMy zr_X7_lead) = true := ⟨zg_of (List.mem_of_getElem? (i := 991) (by rfl)) rfl, zg_of (List.mem_of_getElem? (i := 108) (by rfl)) rfl, by decide +kernel⟩
set_option maxRecDepth 100000 in
theorem zk_X7_judge : zca zrecs zr_X7_judge 0 zo_X7_judge zq_X7_judge = true := by decide +kernel
theorem zd_X7_judge : zdown 97 zo_X7_judge = true := by decide +kernel
set_option maxRecDepth 100000 in
theorem zc_X7_judge : Jvm.Cond.code (zMy zr_X7_judge) (zMb zr_X7_judge) (zMl zr_X7_judge) (zMr zr_X7_judge) ∈ zgt ∧ Jvm.Cond.initialized (zMy zr_X7_judge).cls ∈ zgt ∧ plainFor (zMy zr_X7_judge) = true := ⟨zg_of (List.mem_of_getElem? (i := 958) (by rfl)) rfl, zg_of (List.mem_of_getElem? (i := 108) (by rfl)) rfl, by decide +kernel⟩
set_option maxRecDepth 100000 in
theorem zk_X8_init : zca zrecs zr_X8_init 0 zo_X8_init zq_X8_init = true := by decide +kernel
theorem zd_X8_init : zdown 98 zo_X8_init = true := by decide +kernel
set_option maxRecDepth 100000 in
theorem zc_X8_init : Jvm.Cond.code (zMy zr_X8_init) (zMb zr_X8_init) (zMl zr_X8_init) (zMr zr_X8_init) ∈ zgt ∧ Jvm.Cond.initialized (zMy zr_X8_init).cls ∈ zgt ∧ plainFor (zMy zr_X8_init) = true := ⟨zg_of (List.mem_of_getElem? (i := 376) (by rfl)) rfl, zg_of (List.mem_of_getElem? (i := 107) (by rfl)) rfl, by decide +kernel⟩
set_option maxRecDepth 100000 in
theorem zk_X8_clear : zca zrecs zr_X8_clear 0 zo_X8_clear zq_X8_clear = true := by decide +kernel
theorem zd_X8_clear : zdown 99 zo_X8_clear = true := by decide +kernel
set_option maxRecDepth 100000 in
theorem zc_X8_clear : Jvm.Cond.code (zMy zr_X8_clear) (zMb zr_X8_clear) (zMl zr_X8_clear) (zMr zr_X8_clear) ∈ zgt ∧ Jvm.Cond.initialized (zMy zr_X8_clear).cls ∈ zgt ∧ plainFor (zMy zr_X8_clear) = true := ⟨zg_of (List.mem_of_getElem? (i := 892) (by rfl)) rfl, zg_of (List.mem_of_getElem? (i := 107) (by rfl)) rfl, by decide +kernel⟩
set_option maxRecDepth 100000 in
theorem zk_X8_offer : zca zrecs zr_X8_offer 0 zo_X8_offer zq_X8_offer = true := by decide +kernel
theorem zd_X8_offer : zdown 100 zo_X8_offer = true := by decide +kernel
set_option maxRecDepth 100000 in
theorem zc_X8_offer : Jvm.Cond.code (zMy zr_X8_offer) (zMb zr_X8_offer) (zMl zr_X8_offer) (zMr zr_X8_offer) ∈ zgt ∧ Jvm.Cond.initialized (zMy zr_X8_offer).cls ∈ zgt ∧ plainFor (zMy zr_X8_offer) = true := ⟨zg_of (List.mem_of_getElem? (i := 897) (by rfl)) rfl, zg_of (List.mem_of_getElem? (i := 107) (by rfl)) rfl, by decide +kernel⟩
set_option maxRecDepth 100000 in
theorem zk_X9_init : zca zrecs zr_X9_init 0 zo_X9_init zq_X9_init = true := by decide +kernel
theorem zd_X9_init : zdown 101 zo_X9_init = true := by decide +kernel
set_option maxRecDepth 100000 in
theorem zc_X9_init : Jvm.Cond.code (zMy zr_X9_init) (zMb zr_X9_init) (zMl zr_X9_init) (zMr zr_X9_init) ∈ zgt ∧ Jvm.Cond.initialized (zMy zr_X9_init).cls ∈ zgt ∧ plainFor (zMy zr_X9_init) = true := ⟨zg_of (List.mem_of_getElem? (i := 367) (by rfl)) rfl, zg_of (List.mem_of_getElem? (i := 106) (by rfl)) rfl, by decide +kernel⟩
set_option maxRecDepth 100000 in
theorem zk_X9_hasWritten : zca zrecs zr_X9_hasWritten 0 zo_X9_hasWritten zq_X9_hasWritten = true := by decide +kernel
theorem zd_X9_hasWritten : zdown 102 zo_X9_hasWritten = true := by decide +kernel
set_option maxRecDepth 100000 in
theorem zc_X9_hasWritten : Jvm.Cond.code (zMy zr_X9_hasWritten) (zMb zr_X9_hasWritten) (zMl zr_X9_hasWritten) (zMr zr_X9_hasWritten) ∈ zgt ∧ Jvm.Cond.initialized (zMy zr_X9_hasWritten).cls ∈ zgt ∧ plainFor (zMy zr_X9_hasWritten) = true := ⟨zg_of (List.mem_of_getElem? (i := 1113) (by rfl)) rfl, zg_of (List.mem_of_getElem? (i := 106) (by rfl)) rfl, by decide +kernel⟩
set_option maxRecDepth 100000 in
theorem zk_X9_begin : zca zrecs zr_X9_begin 0 zo_X9_begin zq_X9_begin = true := by decide +kernel
theorem zd_X9_begin : zdown 103 zo_X9_begin = true := by decide +kernel
set_option maxRecDepth 100000 in
theorem zc_X9_begin : Jvm.Cond.code (zMy zr_X9_begin) (zMb zr_X9_begin) (zMl zr_X9_begin) (zMr zr_X9_begin) ∈ zgt ∧ Jvm.Cond.initialized (zMy zr_X9_begin).cls ∈ zgt ∧ plainFor (zMy zr_X9_begin) = true := ⟨zg_of (List.mem_of_getElem? (i := 887) (by rfl)) rfl, zg_of (List.mem_of_getElem? (i := 106) (by rfl)) rfl, by decide +kernel⟩
set_option maxRecDepth 100000 in
theorem zk_X9_offerAll : zca zrecs zr_X9_offerAll 0 zo_X9_offerAll zq_X9_offerAll = true := by decide +kernel
theorem zd_X9_offerAll : zdown 104 zo_X9_offerAll = true := by decide +kernel
set_option maxRecDepth 100000 in
theorem zc_X9_offerAll : Jvm.Cond.code (zMy zr_X9_offerAll) (zMb zr_X9_offerAll) (zMl zr_X9_offerAll) (zMr zr_X9_offerAll) ∈ zgt ∧ Jvm.Cond.initialized (zMy zr_X9_offerAll).cls ∈ zgt ∧ plainFor (zMy zr_X9_offerAll) = true := ⟨zg_of (List.mem_of_getElem? (i := 903) (by rfl)) rfl, zg_of (List.mem_of_getElem? (i := 106) (by rfl)) rfl, by decide +kernel⟩
set_option maxRecDepth 100000 in
theorem zk_X9_turn : zca zrecs zr_X9_turn 0 zo_X9_turn zq_X9_turn = true := by decide +kernel
theorem zd_X9_turn : zdown 105 zo_X9_turn = true := by decide +kernel
set_option maxRecDepth 100000 in
theorem zc_X9_turn : Jvm.Cond.code (zMy zr_X9_turn) (zMb zr_X9_turn) (zMl zr_X9_turn) (zMr zr_X9_turn) ∈ zgt ∧ Jvm.Cond.initialized (zMy zr_X9_turn).cls ∈ zgt ∧ plainFor (zMy zr_X9_turn) = true := ⟨zg_of (List.mem_of_getElem? (i := 908) (by rfl)) rfl, zg_of (List.mem_of_getElem? (i := 106) (by rfl)) rfl, by decide +kernel⟩
set_option maxRecDepth 100000 in
theorem zk_X9_write : zca zrecs zr_X9_write 0 zo_X9_write zq_X9_write = true := by decide +kernel
theorem zd_X9_write : zdown 106 zo_X9_write = true := by decide +kernel
set_option maxRecDepth 100000 in
theorem zc_X9_write : Jvm.Cond.code (zMy zr_X9_write) (zMb zr_X9_write) (zMl zr_X9_write) (zMr zr_X9_write) ∈ zgt ∧ Jvm.Cond.initialized (zMy zr_X9_write).cls ∈ zgt ∧ plainFor (zMy zr_X9_write) = true := ⟨zg_of (List.mem_of_getElem? (i := 883) (by rfl)) rfl, zg_of (List.mem_of_getElem? (i := 106) (by rfl)) rfl, by decide +kernel⟩
set_option maxRecDepth 100000 in
theorem zk_X9_tellOutputsApart : zca zrecs zr_X9_tellOutputsApart 0 zo_X9_tellOutputsApart zq_X9_tellOutputsApart = true := by decide +kernel
theorem zd_X9_tellOutputsApart : zdown 107 zo_X9_tellOutputsApart = true := by decide +kernel
set_option maxRecDepth 100000 in
theorem zc_X9_tellOutputsApart : Jvm.Cond.code (zMy zr_X9_tellOutputsApart) (zMb zr_X9_tellOutputsApart) (zMl zr_X9_tellOutputsApart) (zMr zr_X9_tellOutputsApart) ∈ zgt ∧ Jvm.Cond.initialized (zMy zr_X9_tellOutputsApart).cls ∈ zgt ∧ plainFor (zMy zr_X9_tellOutputsApart) = true := ⟨zg_of (List.mem_of_getElem? (i := 878) (by rfl)) rfl, zg_of (List.mem_of_getElem? (i := 106) (by rfl)) rfl, by decide +kernel⟩
set_option maxRecDepth 100000 in
theorem zk_X9_tellMachinesApart : zca zrecs zr_X9_tellMachinesApart 0 zo_X9_tellMachinesApart zq_X9_tellMachinesApart = true := by decide +kernel
theorem zd_X9_tellMachinesApart : zdown 108 zo_X9_tellMachinesApart = true := by decide +kernel
set_option maxRecDepth 100000 in
theorem zc_X9_tellMachinesApart : Jvm.Cond.code (zMy zr_X9_tellMachinesApart) (zMb zr_X9_tellMachinesApart) (zMl zr_X9_tellMachinesApart) (zMr zr_X9_tellMachinesApart) ∈ zgt ∧ Jvm.Cond.initialized (zMy zr_X9_tellMachinesApart).cls ∈ zgt ∧ plainFor (zMy zr_X9_tellMachinesApart) = true := ⟨zg_of (List.mem_of_getElem? (i := 941) (by rfl)) rfl, zg_of (List.mem_of_getElem? (i := 106) (by rfl)) rfl, by decide +kernel⟩
set_option maxRecDepth 100000 in
theorem zk_X10_read : zca zrecs zr_X10_read 0 zo_X10_read zq_X10_read = true := by decide +kernel
theorem zd_X10_read : zdown 109 zo_X10_read = true := by decide +kernel
set_option maxRecDepth 100000 in
theorem zc_X10_read : Jvm.Cond.code (zMy zr_X10_read) (zMb zr_X10_read) (zMl zr_X10_read) (zMr zr_X10_read) ∈ zgt ∧ Jvm.Cond.initialized (zMy zr_X10_read).cls ∈ zgt ∧ plainFor (zMy zr_X10_read) = true := ⟨zg_of (List.mem_of_getElem? (i := 713) (by rfl)) rfl, zg_of (List.mem_of_getElem? (i := 102) (by rfl)) rfl, by decide +kernel⟩
set_option maxRecDepth 100000 in
theorem zk_X11_init : zca zrecs zr_X11_init 0 zo_X11_init zq_X11_init = true := by decide +kernel
theorem zd_X11_init : zdown 110 zo_X11_init = true := by decide +kernel
set_option maxRecDepth 100000 in
theorem zc_X11_init : Jvm.Cond.code (zMy zr_X11_init) (zMb zr_X11_init) (zMl zr_X11_init) (zMr zr_X11_init) ∈ zgt ∧ Jvm.Cond.initialized (zMy zr_X11_init).cls ∈ zgt ∧ plainFor (zMy zr_X11_init) = true := ⟨zg_of (List.mem_of_getElem? (i := 119) (by rfl)) rfl, zg_of (List.mem_of_getElem? (i := 98) (by rfl)) rfl, by decide +kernel⟩
set_option maxRecDepth 100000 in
theorem zk_X11_isMachine : zca zrecs zr_X11_isMachine 0 zo_X11_isMachine zq_X11_isMachine = true := by decide +kernel
theorem zd_X11_isMachine : zdown 111 zo_X11_isMachine = true := by decide +kernel
set_option maxRecDepth 100000 in
theorem zc_X11_isMachine : Jvm.Cond.code (zMy zr_X11_isMachine) (zMb zr_X11_isMachine) (zMl zr_X11_isMachine) (zMr zr_X11_isMachine) ∈ zgt ∧ Jvm.Cond.initialized (zMy zr_X11_isMachine).cls ∈ zgt ∧ plainFor (zMy zr_X11_isMachine) = true := ⟨zg_of (List.mem_of_getElem? (i := 591) (by rfl)) rfl, zg_of (List.mem_of_getElem? (i := 98) (by rfl)) rfl, by decide +kernel⟩
set_option maxRecDepth 100000 in
theorem zk_X11_machine : zca zrecs zr_X11_machine 0 zo_X11_machine zq_X11_machine = true := by decide +kernel
theorem zd_X11_machine : zdown 112 zo_X11_machine = true := by decide +kernel
set_option maxRecDepth 100000 in
theorem zc_X11_machine : Jvm.Cond.code (zMy zr_X11_machine) (zMb zr_X11_machine) (zMl zr_X11_machine) (zMr zr_X11_machine) ∈ zgt ∧ Jvm.Cond.initialized (zMy zr_X11_machine).cls ∈ zgt ∧ plainFor (zMy zr_X11_machine) = true := ⟨zg_of (List.mem_of_getElem? (i := 587) (by rfl)) rfl, zg_of (List.mem_of_getElem? (i := 98) (by rfl)) rfl, by decide +kernel⟩
set_option maxRecDepth 100000 in
theorem zk_X11_isState : zca zrecs zr_X11_isState 0 zo_X11_isState zq_X11_isState = true := by decide +kernel
theorem zd_X11_isState : zdown 113 zo_X11_isState = true := by decide +kernel
set_option maxRecDepth 100000 in
theorem zc_X11_isState : Jvm.Cond.code (zMy zr_X11_isState) (zMb zr_X11_isState) (zMl zr_X11_isState) (zMr zr_X11_isState) ∈ zgt ∧ Jvm.Cond.initialized (zMy zr_X11_isState).cls ∈ zgt ∧ plainFor (zMy zr_X11_isState) = true := ⟨zg_of (List.mem_of_getElem? (i := 600) (by rfl)) rfl, zg_of (List.mem_of_getElem? (i := 98) (by rfl)) rfl, by decide +kernel⟩
set_option maxRecDepth 100000 in
theorem zk_X11_begins : zca zrecs zr_X11_begins 0 zo_X11_begins zq_X11_begins = true := by decide +kernel
theorem zd_X11_begins : zdown 114 zo_X11_begins = true := by decide +kernel
set_option maxRecDepth 100000 in
theorem zc_X11_begins : Jvm.Cond.code (zMy zr_X11_begins) (zMb zr_X11_begins) (zMl zr_X11_begins) (zMr zr_X11_begins) ∈ zgt ∧ Jvm.Cond.initialized (zMy zr_X11_begins).cls ∈ zgt ∧ plainFor (zMy zr_X11_begins) = true := ⟨zg_of (List.mem_of_getElem? (i := 596) (by rfl)) rfl, zg_of (List.mem_of_getElem? (i := 98) (by rfl)) rfl, by decide +kernel⟩
set_option maxRecDepth 100000 in
theorem zk_X11_isWord : zca zrecs zr_X11_isWord 0 zo_X11_isWord zq_X11_isWord = true := by decide +kernel
theorem zd_X11_isWord : zdown 115 zo_X11_isWord = true := by decide +kernel
set_option maxRecDepth 100000 in
theorem zc_X11_isWord : Jvm.Cond.code (zMy zr_X11_isWord) (zMb zr_X11_isWord) (zMl zr_X11_isWord) (zMr zr_X11_isWord) ∈ zgt ∧ Jvm.Cond.initialized (zMy zr_X11_isWord).cls ∈ zgt ∧ plainFor (zMy zr_X11_isWord) = true := ⟨zg_of (List.mem_of_getElem? (i := 611) (by rfl)) rfl, zg_of (List.mem_of_getElem? (i := 98) (by rfl)) rfl, by decide +kernel⟩
set_option maxRecDepth 100000 in
theorem zk_X11_ends : zca zrecs zr_X11_ends 0 zo_X11_ends zq_X11_ends = true := by decide +kernel
theorem zd_X11_ends : zdown 116 zo_X11_ends = true := by decide +kernel
set_option maxRecDepth 100000 in
theorem zc_X11_ends : Jvm.Cond.code (zMy zr_X11_ends) (zMb zr_X11_ends) (zMl zr_X11_ends) (zMr zr_X11_ends) ∈ zgt ∧ Jvm.Cond.initialized (zMy zr_X11_ends).cls ∈ zgt ∧ plainFor (zMy zr_X11_ends) = true := ⟨zg_of (List.mem_of_getElem? (i := 608) (by rfl)) rfl, zg_of (List.mem_of_getElem? (i := 98) (by rfl)) rfl, by decide +kernel⟩
set_option maxRecDepth 100000 in
theorem zk_X11_arc : zca zrecs zr_X11_arc 0 zo_X11_arc zq_X11_arc = true := by decide +kernel
theorem zd_X11_arc : zdown 117 zo_X11_arc = true := by decide +kernel
set_option maxRecDepth 100000 in
theorem zc_X11_arc : Jvm.Cond.code (zMy zr_X11_arc) (zMb zr_X11_arc) (zMl zr_X11_arc) (zMr zr_X11_arc) ∈ zgt ∧ Jvm.Cond.initialized (zMy zr_X11_arc).cls ∈ zgt ∧ plainFor (zMy zr_X11_arc) = true := ⟨zg_of (List.mem_of_getElem? (i := 615) (by rfl)) rfl, zg_of (List.mem_of_getElem? (i := 98) (by rfl)) rfl, by decide +kernel⟩
set_option maxRecDepth 100000 in
theorem zk_X11_copy : zca zrecs zr_X11_copy 0 zo_X11_copy zq_X11_copy = true := by decide +kernel
theorem zd_X11_copy : zdown 118 zo_X11_copy = true := by decide +kernel
set_option maxRecDepth 100000 in
theorem zc_X11_copy : Jvm.Cond.code (zMy zr_X11_copy) (zMb zr_X11_copy) (zMl zr_X11_copy) (zMr zr_X11_copy) ∈ zgt ∧ Jvm.Cond.initialized (zMy zr_X11_copy).cls ∈ zgt ∧ plainFor (zMy zr_X11_copy) = true := ⟨zg_of (List.mem_of_getElem? (i := 626) (by rfl)) rfl, zg_of (List.mem_of_getElem? (i := 98) (by rfl)) rfl, by decide +kernel⟩
set_option maxRecDepth 100000 in
theorem zk_X11_hasLeast : zca zrecs zr_X11_hasLeast 0 zo_X11_hasLeast zq_X11_hasLeast = true := by decide +kernel
theorem zd_X11_hasLeast : zdown 119 zo_X11_hasLeast = true := by decide +kernel
set_option maxRecDepth 100000 in
theorem zc_X11_hasLeast : Jvm.Cond.code (zMy zr_X11_hasLeast) (zMb zr_X11_hasLeast) (zMl zr_X11_hasLeast) (zMr zr_X11_hasLeast) ∈ zgt ∧ Jvm.Cond.initialized (zMy zr_X11_hasLeast).cls ∈ zgt ∧ plainFor (zMy zr_X11_hasLeast) = true := ⟨zg_of (List.mem_of_getElem? (i := 641) (by rfl)) rfl, zg_of (List.mem_of_getElem? (i := 98) (by rfl)) rfl, by decide +kernel⟩
