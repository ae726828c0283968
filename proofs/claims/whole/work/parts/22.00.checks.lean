set_option maxRecDepth 100000 in
theorem zk_X10_init : zca zrecs zr_X10_init 0 zo_X10_init zq_X10_init = true := by decide +kernel
theorem zd_X10_init : zdown 0 zo_X10_init = true := by decide +kernel
set_option maxRecDepth 100000 in
theorem zc_X10_init : Jvm.Cond.code (zMy zr_X10_init) (zMb zr_X10_init) (zMl zr_X10_init) (zMr zr_X10_init) ∈ zgt ∧ Jvm.Cond.initialized (zMy zr_X10_init).cls ∈ zgt ∧ plainFor (zMy zr_X10_init) = true := ⟨zg_of (List.mem_of_getElem? (i := 220) (by rfl)) rfl, zg_of (List.mem_of_getElem? (i := 102) (by rfl)) rfl, by decide +kernel⟩
set_option maxRecDepth 100000 in
theorem zk_X4_init : zca zrecs zr_X4_init 0 zo_X4_init zq_X4_init = true := by decide +kernel
theorem zd_X4_init : zdown 1 zo_X4_init = true := by decide +kernel
set_option maxRecDepth 100000 in
theorem zc_X4_init : Jvm.Cond.code (zMy zr_X4_init) (zMb zr_X4_init) (zMl zr_X4_init) (zMr zr_X4_init) ∈ zgt ∧ Jvm.Cond.initialized (zMy zr_X4_init).cls ∈ zgt ∧ plainFor (zMy zr_X4_init) = true := ⟨zg_of (List.mem_of_getElem? (i := 281) (by rfl)) rfl, zg_of (List.mem_of_getElem? (i := 104) (by rfl)) rfl, by decide +kernel⟩
set_option maxRecDepth 100000 in
theorem zk_X0_init : zca zrecs zr_X0_init 0 zo_X0_init zq_X0_init = true := by decide +kernel
theorem zd_X0_init : zdown 2 zo_X0_init = true := by decide +kernel
set_option maxRecDepth 100000 in
theorem zc_X0_init : Jvm.Cond.code (zMy zr_X0_init) (zMb zr_X0_init) (zMl zr_X0_init) (zMr zr_X0_init) ∈ zgt ∧ Jvm.Cond.initialized (zMy zr_X0_init).cls ∈ zgt ∧ plainFor (zMy zr_X0_init) = true := ⟨zg_of (List.mem_of_getElem? (i := 274) (by rfl)) rfl, zg_of (List.mem_of_getElem? (i := 103) (by rfl)) rfl, by decide +kernel⟩
set_option maxRecDepth 100000 in
theorem zk_X11_holds : zca zrecs zr_X11_holds 0 zo_X11_holds zq_X11_holds = true := by decide +kernel
theorem zd_X11_holds : zdown 3 zo_X11_holds = true := by decide +kernel
set_option maxRecDepth 100000 in
theorem zc_X11_holds : Jvm.Cond.code (zMy zr_X11_holds) (zMb zr_X11_holds) (zMl zr_X11_holds) (zMr zr_X11_holds) ∈ zgt ∧ Jvm.Cond.initialized (zMy zr_X11_holds).cls ∈ zgt ∧ plainFor (zMy zr_X11_holds) = true := ⟨zg_of (List.mem_of_getElem? (i := 692) (by rfl)) rfl, zg_of (List.mem_of_getElem? (i := 98) (by rfl)) rfl, by decide +kernel⟩
set_option maxRecDepth 100000 in
theorem zk_X0_closeGroup : zca zrecs zr_X0_closeGroup 0 zo_X0_closeGroup zq_X0_closeGroup = true := by decide +kernel
theorem zd_X0_closeGroup : zdown 4 zo_X0_closeGroup = true := by decide +kernel
set_option maxRecDepth 100000 in
theorem zc_X0_closeGroup : Jvm.Cond.code (zMy zr_X0_closeGroup) (zMb zr_X0_closeGroup) (zMl zr_X0_closeGroup) (zMr zr_X0_closeGroup) ∈ zgt ∧ Jvm.Cond.initialized (zMy zr_X0_closeGroup).cls ∈ zgt ∧ plainFor (zMy zr_X0_closeGroup) = true := ⟨zg_of (List.mem_of_getElem? (i := 823) (by rfl)) rfl, zg_of (List.mem_of_getElem? (i := 103) (by rfl)) rfl, by decide +kernel⟩
set_option maxRecDepth 100000 in
theorem zk_X10_isAlike : zca zrecs zr_X10_isAlike 0 zo_X10_isAlike zq_X10_isAlike = true := by decide +kernel
theorem zd_X10_isAlike : zdown 5 zo_X10_isAlike = true := by decide +kernel
set_option maxRecDepth 100000 in
theorem zc_X10_isAlike : Jvm.Cond.code (zMy zr_X10_isAlike) (zMb zr_X10_isAlike) (zMl zr_X10_isAlike) (zMr zr_X10_isAlike) ∈ zgt ∧ Jvm.Cond.initialized (zMy zr_X10_isAlike).cls ∈ zgt ∧ plainFor (zMy zr_X10_isAlike) = true := ⟨zg_of (List.mem_of_getElem? (i := 750) (by rfl)) rfl, zg_of (List.mem_of_getElem? (i := 102) (by rfl)) rfl, by decide +kernel⟩
set_option maxRecDepth 100000 in
theorem zk_X4_isAlike : zca zrecs zr_X4_isAlike 0 zo_X4_isAlike zq_X4_isAlike = true := by decide +kernel
theorem zd_X4_isAlike : zdown 6 zo_X4_isAlike = true := by decide +kernel
set_option maxRecDepth 100000 in
theorem zc_X4_isAlike : Jvm.Cond.code (zMy zr_X4_isAlike) (zMb zr_X4_isAlike) (zMl zr_X4_isAlike) (zMr zr_X4_isAlike) ∈ zgt ∧ Jvm.Cond.initialized (zMy zr_X4_isAlike).cls ∈ zgt ∧ plainFor (zMy zr_X4_isAlike) = true := ⟨zg_of (List.mem_of_getElem? (i := 818) (by rfl)) rfl, zg_of (List.mem_of_getElem? (i := 104) (by rfl)) rfl, by decide +kernel⟩
set_option maxRecDepth 100000 in
theorem zk_X4_isApart : zca zrecs zr_X4_isApart 0 zo_X4_isApart zq_X4_isApart = true := by decide +kernel
theorem zd_X4_isApart : zdown 7 zo_X4_isApart = true := by decide +kernel
set_option maxRecDepth 100000 in
theorem zc_X4_isApart : Jvm.Cond.code (zMy zr_X4_isApart) (zMb zr_X4_isApart) (zMl zr_X4_isApart) (zMr zr_X4_isApart) ∈ zgt ∧ Jvm.Cond.initialized (zMy zr_X4_isApart).cls ∈ zgt ∧ plainFor (zMy zr_X4_isApart) = true := ⟨zg_of (List.mem_of_getElem? (i := 814) (by rfl)) rfl, zg_of (List.mem_of_getElem? (i := 104) (by rfl)) rfl, by decide +kernel⟩
set_option maxRecDepth 100000 in
theorem zk_X0_keep : zca zrecs zr_X0_keep 0 zo_X0_keep zq_X0_keep = true := by decide +kernel
theorem zd_X0_keep : zdown 8 zo_X0_keep = true := by decide +kernel
set_option maxRecDepth 100000 in
theorem zc_X0_keep : Jvm.Cond.code (zMy zr_X0_keep) (zMb zr_X0_keep) (zMl zr_X0_keep) (zMr zr_X0_keep) ∈ zgt ∧ Jvm.Cond.initialized (zMy zr_X0_keep).cls ∈ zgt ∧ plainFor (zMy zr_X0_keep) = true := ⟨zg_of (List.mem_of_getElem? (i := 810) (by rfl)) rfl, zg_of (List.mem_of_getElem? (i := 103) (by rfl)) rfl, by decide +kernel⟩
set_option maxRecDepth 100000 in
theorem zk_X10_clear : zca zrecs zr_X10_clear 0 zo_X10_clear zq_X10_clear = true := by decide +kernel
theorem zd_X10_clear : zdown 9 zo_X10_clear = true := by decide +kernel
set_option maxRecDepth 100000 in
theorem zc_X10_clear : Jvm.Cond.code (zMy zr_X10_clear) (zMb zr_X10_clear) (zMl zr_X10_clear) (zMr zr_X10_clear) ∈ zgt ∧ Jvm.Cond.initialized (zMy zr_X10_clear).cls ∈ zgt ∧ plainFor (zMy zr_X10_clear) = true := ⟨zg_of (List.mem_of_getElem? (i := 653) (by rfl)) rfl, zg_of (List.mem_of_getElem? (i := 102) (by rfl)) rfl, by decide +kernel⟩
set_option maxRecDepth 100000 in
theorem zk_X4_begin : zca zrecs zr_X4_begin 0 zo_X4_begin zq_X4_begin = true := by decide +kernel
theorem zd_X4_begin : zdown 10 zo_X4_begin = true := by decide +kernel
set_option maxRecDepth 100000 in
theorem zc_X4_begin : Jvm.Cond.code (zMy zr_X4_begin) (zMb zr_X4_begin) (zMl zr_X4_begin) (zMr zr_X4_begin) ∈ zgt ∧ Jvm.Cond.initialized (zMy zr_X4_begin).cls ∈ zgt ∧ plainFor (zMy zr_X4_begin) = true := ⟨zg_of (List.mem_of_getElem? (i := 805) (by rfl)) rfl, zg_of (List.mem_of_getElem? (i := 104) (by rfl)) rfl, by decide +kernel⟩
set_option maxRecDepth 100000 in
theorem zk_J7_fill_53178 : zca zrecs zr_J7_fill_53178 0 zo_J7_fill_53178 zq_J7_fill_53178 = true := by decide +kernel
theorem zd_J7_fill_53178 : zdown 11 zo_J7_fill_53178 = true := by decide +kernel
set_option maxRecDepth 100000 in
theorem zc_J7_fill_53178 : Jvm.Cond.code (zMy zr_J7_fill_53178) (zMb zr_J7_fill_53178) (zMl zr_J7_fill_53178) (zMr zr_J7_fill_53178) ∈ zgt ∧ Jvm.Cond.initialized (zMy zr_J7_fill_53178).cls ∈ zgt ∧ plainFor (zMy zr_J7_fill_53178) = true := ⟨zg_of (List.mem_of_getElem? (i := 136) (by rfl)) rfl, zg_of (List.mem_of_getElem? (i := 100) (by rfl)) rfl, by decide +kernel⟩
set_option maxRecDepth 100000 in
theorem zk_X0_begin : zca zrecs zr_X0_begin 0 zo_X0_begin zq_X0_begin = true := by decide +kernel
theorem zd_X0_begin : zdown 12 zo_X0_begin = true := by decide +kernel
set_option maxRecDepth 100000 in
theorem zc_X0_begin : Jvm.Cond.code (zMy zr_X0_begin) (zMb zr_X0_begin) (zMl zr_X0_begin) (zMr zr_X0_begin) ∈ zgt ∧ Jvm.Cond.initialized (zMy zr_X0_begin).cls ∈ zgt ∧ plainFor (zMy zr_X0_begin) = true := ⟨zg_of (List.mem_of_getElem? (i := 799) (by rfl)) rfl, zg_of (List.mem_of_getElem? (i := 103) (by rfl)) rfl, by decide +kernel⟩
set_option maxRecDepth 100000 in
theorem zk_X10_add : zca zrecs zr_X10_add 0 zo_X10_add zq_X10_add = true := by decide +kernel
theorem zd_X10_add : zdown 13 zo_X10_add = true := by decide +kernel
set_option maxRecDepth 100000 in
theorem zc_X10_add : Jvm.Cond.code (zMy zr_X10_add) (zMb zr_X10_add) (zMl zr_X10_add) (zMr zr_X10_add) ∈ zgt ∧ Jvm.Cond.initialized (zMy zr_X10_add).cls ∈ zgt ∧ plainFor (zMy zr_X10_add) = true := ⟨zg_of (List.mem_of_getElem? (i := 722) (by rfl)) rfl, zg_of (List.mem_of_getElem? (i := 102) (by rfl)) rfl, by decide +kernel⟩
set_option maxRecDepth 100000 in
theorem zk_X10_addNumber : zca zrecs zr_X10_addNumber 0 zo_X10_addNumber zq_X10_addNumber = true := by decide +kernel
theorem zd_X10_addNumber : zdown 14 zo_X10_addNumber = true := by decide +kernel
set_option maxRecDepth 100000 in
theorem zc_X10_addNumber : Jvm.Cond.code (zMy zr_X10_addNumber) (zMb zr_X10_addNumber) (zMl zr_X10_addNumber) (zMr zr_X10_addNumber) ∈ zgt ∧ Jvm.Cond.initialized (zMy zr_X10_addNumber).cls ∈ zgt ∧ plainFor (zMy zr_X10_addNumber) = true := ⟨zg_of (List.mem_of_getElem? (i := 718) (by rfl)) rfl, zg_of (List.mem_of_getElem? (i := 102) (by rfl)) rfl, by decide +kernel⟩
set_option maxRecDepth 100000 in
theorem zk_X10_become : zca zrecs zr_X10_become 0 zo_X10_become zq_X10_become = true := by decide +kernel
theorem zd_X10_become : zdown 15 zo_X10_become = true := by decide +kernel
set_option maxRecDepth 100000 in
theorem zc_X10_become : Jvm.Cond.code (zMy zr_X10_become) (zMb zr_X10_become) (zMl zr_X10_become) (zMr zr_X10_become) ∈ zgt ∧ Jvm.Cond.initialized (zMy zr_X10_become).cls ∈ zgt ∧ plainFor (zMy zr_X10_become) = true := ⟨zg_of (List.mem_of_getElem? (i := 740) (by rfl)) rfl, zg_of (List.mem_of_getElem? (i := 102) (by rfl)) rfl, by decide +kernel⟩
set_option maxRecDepth 100000 in
theorem zk_X10_commonWith : zca zrecs zr_X10_commonWith 0 zo_X10_commonWith zq_X10_commonWith = true := by decide +kernel
theorem zd_X10_commonWith : zdown 16 zo_X10_commonWith = true := by decide +kernel
set_option maxRecDepth 100000 in
theorem zc_X10_commonWith : Jvm.Cond.code (zMy zr_X10_commonWith) (zMb zr_X10_commonWith) (zMl zr_X10_commonWith) (zMr zr_X10_commonWith) ∈ zgt ∧ Jvm.Cond.initialized (zMy zr_X10_commonWith).cls ∈ zgt ∧ plainFor (zMy zr_X10_commonWith) = true := ⟨zg_of (List.mem_of_getElem? (i := 771) (by rfl)) rfl, zg_of (List.mem_of_getElem? (i := 102) (by rfl)) rfl, by decide +kernel⟩
set_option maxRecDepth 100000 in
theorem zk_J9_min_7cf53 : zca zrecs zr_J9_min_7cf53 0 zo_J9_min_7cf53 zq_J9_min_7cf53 = true := by decide +kernel
theorem zd_J9_min_7cf53 : zdown 17 zo_J9_min_7cf53 = true := by decide +kernel
set_option maxRecDepth 100000 in
theorem zc_J9_min_7cf53 : Jvm.Cond.code (zMy zr_J9_min_7cf53) (zMb zr_J9_min_7cf53) (zMl zr_J9_min_7cf53) (zMr zr_J9_min_7cf53) ∈ zgt ∧ Jvm.Cond.initialized (zMy zr_J9_min_7cf53).cls ∈ zgt ∧ plainFor (zMy zr_J9_min_7cf53) = true := ⟨zg_of (List.mem_of_getElem? (i := 863) (by rfl)) rfl, zg_of (List.mem_of_getElem? (i := 114) (by rfl)) rfl, by decide +kernel⟩
set_option maxRecDepth 100000 in
theorem zk_X10_dropFirst : zca zrecs zr_X10_dropFirst 0 zo_X10_dropFirst zq_X10_dropFirst = true := by decide +kernel
theorem zd_X10_dropFirst : zdown 18 zo_X10_dropFirst = true := by decide +kernel
set_option maxRecDepth 100000 in
theorem zc_X10_dropFirst : Jvm.Cond.code (zMy zr_X10_dropFirst) (zMb zr_X10_dropFirst) (zMl zr_X10_dropFirst) (zMr zr_X10_dropFirst) ∈ zgt ∧ Jvm.Cond.initialized (zMy zr_X10_dropFirst).cls ∈ zgt ∧ plainFor (zMy zr_X10_dropFirst) = true := ⟨zg_of (List.mem_of_getElem? (i := 860) (by rfl)) rfl, zg_of (List.mem_of_getElem? (i := 102) (by rfl)) rfl, by decide +kernel⟩
set_option maxRecDepth 100000 in
theorem zk_X4_follow : zca zrecs zr_X4_follow 0 zo_X4_follow zq_X4_follow = true := by decide +kernel
theorem zd_X4_follow : zdown 19 zo_X4_follow = true := by decide +kernel
set_option maxRecDepth 100000 in
theorem zc_X4_follow : Jvm.Cond.code (zMy zr_X4_follow) (zMb zr_X4_follow) (zMl zr_X4_follow) (zMr zr_X4_follow) ∈ zgt ∧ Jvm.Cond.initialized (zMy zr_X4_follow).cls ∈ zgt ∧ plainFor (zMy zr_X4_follow) = true := ⟨zg_of (List.mem_of_getElem? (i := 853) (by rfl)) rfl, zg_of (List.mem_of_getElem? (i := 104) (by rfl)) rfl, by decide +kernel⟩
set_option maxRecDepth 100000 in
theorem zk_J9_max_7cf53 : zca zrecs zr_J9_max_7cf53 0 zo_J9_max_7cf53 zq_J9_max_7cf53 = true := by decide +kernel
theorem zd_J9_max_7cf53 : zdown 20 zo_J9_max_7cf53 = true := by decide +kernel
set_option maxRecDepth 100000 in
theorem zc_J9_max_7cf53 : Jvm.Cond.code (zMy zr_J9_max_7cf53) (zMb zr_J9_max_7cf53) (zMl zr_J9_max_7cf53) (zMr zr_J9_max_7cf53) ∈ zgt ∧ Jvm.Cond.initialized (zMy zr_J9_max_7cf53).cls ∈ zgt ∧ plainFor (zMy zr_J9_max_7cf53) = true := ⟨zg_of (List.mem_of_getElem? (i := 874) (by rfl)) rfl, zg_of (List.mem_of_getElem? (i := 114) (by rfl)) rfl, by decide +kernel⟩
set_option maxRecDepth 100000 in
theorem zk_X10_shortenTo : zca zrecs zr_X10_shortenTo 0 zo_X10_shortenTo zq_X10_shortenTo = true := by decide +kernel
theorem zd_X10_shortenTo : zdown 21 zo_X10_shortenTo = true := by decide +kernel
set_option maxRecDepth 100000 in
theorem zc_X10_shortenTo : Jvm.Cond.code (zMy zr_X10_shortenTo) (zMb zr_X10_shortenTo) (zMl zr_X10_shortenTo) (zMr zr_X10_shortenTo) ∈ zgt ∧ Jvm.Cond.initialized (zMy zr_X10_shortenTo).cls ∈ zgt ∧ plainFor (zMy zr_X10_shortenTo) = true := ⟨zg_of (List.mem_of_getElem? (i := 871) (by rfl)) rfl, zg_of (List.mem_of_getElem? (i := 102) (by rfl)) rfl, by decide +kernel⟩
set_option maxRecDepth 100000 in
theorem zk_X4_forgetHowApart : zca zrecs zr_X4_forgetHowApart 0 zo_X4_forgetHowApart zq_X4_forgetHowApart = true := by decide +kernel
theorem zd_X4_forgetHowApart : zdown 22 zo_X4_forgetHowApart = true := by decide +kernel
set_option maxRecDepth 100000 in
theorem zc_X4_forgetHowApart : Jvm.Cond.code (zMy zr_X4_forgetHowApart) (zMb zr_X4_forgetHowApart) (zMl zr_X4_forgetHowApart) (zMr zr_X4_forgetHowApart) ∈ zgt ∧ Jvm.Cond.initialized (zMy zr_X4_forgetHowApart).cls ∈ zgt ∧ plainFor (zMy zr_X4_forgetHowApart) = true := ⟨zg_of (List.mem_of_getElem? (i := 867) (by rfl)) rfl, zg_of (List.mem_of_getElem? (i := 104) (by rfl)) rfl, by decide +kernel⟩
set_option maxRecDepth 100000 in
theorem zk_X0_pairUp : zca zrecs zr_X0_pairUp 0 zo_X0_pairUp zq_X0_pairUp = true := by decide +kernel
theorem zd_X0_pairUp : zdown 23 zo_X0_pairUp = true := by decide +kernel
set_option maxRecDepth 100000 in
theorem zc_X0_pairUp : Jvm.Cond.code (zMy zr_X0_pairUp) (zMb zr_X0_pairUp) (zMl zr_X0_pairUp) (zMr zr_X0_pairUp) ∈ zgt ∧ Jvm.Cond.initialized (zMy zr_X0_pairUp).cls ∈ zgt ∧ plainFor (zMy zr_X0_pairUp) = true := ⟨zg_of (List.mem_of_getElem? (i := 849) (by rfl)) rfl, zg_of (List.mem_of_getElem? (i := 103) (by rfl)) rfl, by decide +kernel⟩
set_option maxRecDepth 100000 in
theorem zk_X0_grow : zca zrecs zr_X0_grow 0 zo_X0_grow zq_X0_grow = true := by decide +kernel
theorem zd_X0_grow : zdown 24 zo_X0_grow = true := by decide +kernel
set_option maxRecDepth 100000 in
theorem zc_X0_grow : Jvm.Cond.code (zMy zr_X0_grow) (zMb zr_X0_grow) (zMl zr_X0_grow) (zMr zr_X0_grow) ∈ zgt ∧ Jvm.Cond.initialized (zMy zr_X0_grow).cls ∈ zgt ∧ plainFor (zMy zr_X0_grow) = true := ⟨zg_of (List.mem_of_getElem? (i := 845) (by rfl)) rfl, zg_of (List.mem_of_getElem? (i := 103) (by rfl)) rfl, by decide +kernel⟩
set_option maxRecDepth 100000 in
theorem zk_X2_hasEnd : zca zrecs zr_X2_hasEnd 0 zo_X2_hasEnd zq_X2_hasEnd = true := by decide +kernel
theorem zd_X2_hasEnd : zdown 25 zo_X2_hasEnd = true := by decide +kernel
set_option maxRecDepth 100000 in
theorem zc_X2_hasEnd : Jvm.Cond.code (zMy zr_X2_hasEnd) (zMb zr_X2_hasEnd) (zMl zr_X2_hasEnd) (zMr zr_X2_hasEnd) ∈ zgt ∧ Jvm.Cond.initialized (zMy zr_X2_hasEnd).cls ∈ zgt ∧ plainFor (zMy zr_X2_hasEnd) = true := ⟨zg_of (List.mem_of_getElem? (i := 689) (by rfl)) rfl, zg_of (List.mem_of_getElem? (i := 99) (by rfl)) rfl, by decide +kernel⟩
set_option maxRecDepth 100000 in
theorem zk_X0_shows : zca zrecs zr_X0_shows 0 zo_X0_shows zq_X0_shows = true := by decide +kernel
theorem zd_X0_shows : zdown 26 zo_X0_shows = true := by decide +kernel
set_option maxRecDepth 100000 in
theorem zc_X0_shows : Jvm.Cond.code (zMy zr_X0_shows) (zMb zr_X0_shows) (zMl zr_X0_shows) (zMr zr_X0_shows) ∈ zgt ∧ Jvm.Cond.initialized (zMy zr_X0_shows).cls ∈ zgt ∧ plainFor (zMy zr_X0_shows) = true := ⟨zg_of (List.mem_of_getElem? (i := 827) (by rfl)) rfl, zg_of (List.mem_of_getElem? (i := 103) (by rfl)) rfl, by decide +kernel⟩
set_option maxRecDepth 100000 in
theorem zk_X10_reverse : zca zrecs zr_X10_reverse 0 zo_X10_reverse zq_X10_reverse = true := by decide +kernel
theorem zd_X10_reverse : zdown 27 zo_X10_reverse = true := by decide +kernel
set_option maxRecDepth 100000 in
theorem zc_X10_reverse : Jvm.Cond.code (zMy zr_X10_reverse) (zMb zr_X10_reverse) (zMl zr_X10_reverse) (zMr zr_X10_reverse) ∈ zgt ∧ Jvm.Cond.initialized (zMy zr_X10_reverse).cls ∈ zgt ∧ plainFor (zMy zr_X10_reverse) = true := ⟨zg_of (List.mem_of_getElem? (i := 841) (by rfl)) rfl, zg_of (List.mem_of_getElem? (i := 102) (by rfl)) rfl, by decide +kernel⟩
set_option maxRecDepth 100000 in
theorem zk_X0_spell : zca zrecs zr_X0_spell 0 zo_X0_spell zq_X0_spell = true := by decide +kernel
theorem zd_X0_spell : zdown 28 zo_X0_spell = true := by decide +kernel
set_option maxRecDepth 100000 in
theorem zc_X0_spell : Jvm.Cond.code (zMy zr_X0_spell) (zMb zr_X0_spell) (zMl zr_X0_spell) (zMr zr_X0_spell) ∈ zgt ∧ Jvm.Cond.initialized (zMy zr_X0_spell).cls ∈ zgt ∧ plainFor (zMy zr_X0_spell) = true := ⟨zg_of (List.mem_of_getElem? (i := 835) (by rfl)) rfl, zg_of (List.mem_of_getElem? (i := 103) (by rfl)) rfl, by decide +kernel⟩
set_option maxRecDepth 100000 in
theorem zk_X0_differ : zca zrecs zr_X0_differ 0 zo_X0_differ zq_X0_differ = true := by decide +kernel
theorem zd_X0_differ : zdown 29 zo_X0_differ = true := by decide +kernel
set_option maxRecDepth 100000 in
theorem zc_X0_differ : Jvm.Cond.code (zMy zr_X0_differ) (zMb zr_X0_differ) (zMl zr_X0_differ) (zMr zr_X0_differ) ∈ zgt ∧ Jvm.Cond.initialized (zMy zr_X0_differ).cls ∈ zgt ∧ plainFor (zMy zr_X0_differ) = true := ⟨zg_of (List.mem_of_getElem? (i := 795) (by rfl)) rfl, zg_of (List.mem_of_getElem? (i := 103) (by rfl)) rfl, by decide +kernel⟩
set_option maxRecDepth 100000 in
theorem zk_X11_makeWords : zca zrecs zr_X11_makeWords 0 zo_X11_makeWords zq_X11_makeWords = true := by decide +kernel
theorem zd_X11_makeWords : zdown 30 zo_X11_makeWords = true := by decide +kernel
set_option maxRecDepth 100000 in
theorem zc_X11_makeWords : Jvm.Cond.code (zMy zr_X11_makeWords) (zMb zr_X11_makeWords) (zMl zr_X11_makeWords) (zMr zr_X11_makeWords) ∈ zgt ∧ Jvm.Cond.initialized (zMy zr_X11_makeWords).cls ∈ zgt ∧ plainFor (zMy zr_X11_makeWords) = true := ⟨zg_of (List.mem_of_getElem? (i := 214) (by rfl)) rfl, zg_of (List.mem_of_getElem? (i := 98) (by rfl)) rfl, by decide +kernel⟩
set_option maxRecDepth 100000 in
theorem zk_X1_init : zca zrecs zr_X1_init 0 zo_X1_init zq_X1_init = true := by decide +kernel
theorem zd_X1_init : zdown 31 zo_X1_init = true := by decide +kernel
set_option maxRecDepth 100000 in
theorem zc_X1_init : Jvm.Cond.code (zMy zr_X1_init) (zMb zr_X1_init) (zMl zr_X1_init) (zMr zr_X1_init) ∈ zgt ∧ Jvm.Cond.initialized (zMy zr_X1_init).cls ∈ zgt ∧ plainFor (zMy zr_X1_init) = true := ⟨zg_of (List.mem_of_getElem? (i := 499) (by rfl)) rfl, zg_of (List.mem_of_getElem? (i := 110) (by rfl)) rfl, by decide +kernel⟩
set_option maxRecDepth 100000 in
theorem zk_X10_addWord : zca zrecs zr_X10_addWord 0 zo_X10_addWord zq_X10_addWord = true := by decide +kernel
theorem zd_X10_addWord : zdown 32 zo_X10_addWord = true := by decide +kernel
set_option maxRecDepth 100000 in
theorem zc_X10_addWord : Jvm.Cond.code (zMy zr_X10_addWord) (zMb zr_X10_addWord) (zMl zr_X10_addWord) (zMr zr_X10_addWord) ∈ zgt ∧ Jvm.Cond.initialized (zMy zr_X10_addWord).cls ∈ zgt ∧ plainFor (zMy zr_X10_addWord) = true := ⟨zg_of (List.mem_of_getElem? (i := 1054) (by rfl)) rfl, zg_of (List.mem_of_getElem? (i := 102) (by rfl)) rfl, by decide +kernel⟩
set_option maxRecDepth 100000 in
theorem zk_X1_guess : zca zrecs zr_X1_guess 0 zo_X1_guess zq_X1_guess = true := by decide +kernel
theorem zd_X1_guess : zdown 33 zo_X1_guess = true := by decide +kernel
set_option maxRecDepth 100000 in
theorem zc_X1_guess : Jvm.Cond.code (zMy zr_X1_guess) (zMb zr_X1_guess) (zMl zr_X1_guess) (zMr zr_X1_guess) ∈ zgt ∧ Jvm.Cond.initialized (zMy zr_X1_guess).cls ∈ zgt ∧ plainFor (zMy zr_X1_guess) = true := ⟨zg_of (List.mem_of_getElem? (i := 1050) (by rfl)) rfl, zg_of (List.mem_of_getElem? (i := 110) (by rfl)) rfl, by decide +kernel⟩
set_option maxRecDepth 100000 in
theorem zk_X1_guessCommons : zca zrecs zr_X1_guessCommons 0 zo_X1_guessCommons zq_X1_guessCommons = true := by decide +kernel
theorem zd_X1_guessCommons : zdown 34 zo_X1_guessCommons = true := by decide +kernel
set_option maxRecDepth 100000 in
theorem zc_X1_guessCommons : Jvm.Cond.code (zMy zr_X1_guessCommons) (zMb zr_X1_guessCommons) (zMl zr_X1_guessCommons) (zMr zr_X1_guessCommons) ∈ zgt ∧ Jvm.Cond.initialized (zMy zr_X1_guessCommons).cls ∈ zgt ∧ plainFor (zMy zr_X1_guessCommons) = true := ⟨zg_of (List.mem_of_getElem? (i := 1046) (by rfl)) rfl, zg_of (List.mem_of_getElem? (i := 110) (by rfl)) rfl, by decide +kernel⟩
set_option maxRecDepth 100000 in
theorem zk_X1_call : zca zrecs zr_X1_call 0 zo_X1_call zq_X1_call = true := by decide +kernel
theorem zd_X1_call : zdown 35 zo_X1_call = true := by decide +kernel
set_option maxRecDepth 100000 in
theorem zc_X1_call : Jvm.Cond.code (zMy zr_X1_call) (zMb zr_X1_call) (zMl zr_X1_call) (zMr zr_X1_call) ∈ zgt ∧ Jvm.Cond.initialized (zMy zr_X1_call).cls ∈ zgt ∧ plainFor (zMy zr_X1_call) = true := ⟨zg_of (List.mem_of_getElem? (i := 1101) (by rfl)) rfl, zg_of (List.mem_of_getElem? (i := 110) (by rfl)) rfl, by decide +kernel⟩
set_option maxRecDepth 100000 in
theorem zk_X1_number : zca zrecs zr_X1_number 0 zo_X1_number zq_X1_number = true := by decide +kernel
theorem zd_X1_number : zdown 36 zo_X1_number = true := by decide +kernel
set_option maxRecDepth 100000 in
theorem zc_X1_number : Jvm.Cond.code (zMy zr_X1_number) (zMb zr_X1_number) (zMl zr_X1_number) (zMr zr_X1_number) ∈ zgt ∧ Jvm.Cond.initialized (zMy zr_X1_number).cls ∈ zgt ∧ plainFor (zMy zr_X1_number) = true := ⟨zg_of (List.mem_of_getElem? (i := 1096) (by rfl)) rfl, zg_of (List.mem_of_getElem? (i := 110) (by rfl)) rfl, by decide +kernel⟩
set_option maxRecDepth 100000 in
theorem zk_X1_goAlike : zca zrecs zr_X1_goAlike 0 zo_X1_goAlike zq_X1_goAlike = true := by decide +kernel
theorem zd_X1_goAlike : zdown 37 zo_X1_goAlike = true := by decide +kernel
set_option maxRecDepth 100000 in
theorem zc_X1_goAlike : Jvm.Cond.code (zMy zr_X1_goAlike) (zMb zr_X1_goAlike) (zMl zr_X1_goAlike) (zMr zr_X1_goAlike) ∈ zgt ∧ Jvm.Cond.initialized (zMy zr_X1_goAlike).cls ∈ zgt ∧ plainFor (zMy zr_X1_goAlike) = true := ⟨zg_of (List.mem_of_getElem? (i := 1091) (by rfl)) rfl, zg_of (List.mem_of_getElem? (i := 110) (by rfl)) rfl, by decide +kernel⟩
set_option maxRecDepth 100000 in
theorem zk_X1_refine : zca zrecs zr_X1_refine 0 zo_X1_refine zq_X1_refine = true := by decide +kernel
theorem zd_X1_refine : zdown 38 zo_X1_refine = true := by decide +kernel
set_option maxRecDepth 100000 in
theorem zc_X1_refine : Jvm.Cond.code (zMy zr_X1_refine) (zMb zr_X1_refine) (zMl zr_X1_refine) (zMr zr_X1_refine) ∈ zgt ∧ Jvm.Cond.initialized (zMy zr_X1_refine).cls ∈ zgt ∧ plainFor (zMy zr_X1_refine) = true := ⟨zg_of (List.mem_of_getElem? (i := 1087) (by rfl)) rfl, zg_of (List.mem_of_getElem? (i := 110) (by rfl)) rfl, by decide +kernel⟩
set_option maxRecDepth 100000 in
theorem zk_X1_writeAlike : zca zrecs zr_X1_writeAlike 0 zo_X1_writeAlike zq_X1_writeAlike = true := by decide +kernel
theorem zd_X1_writeAlike : zdown 39 zo_X1_writeAlike = true := by decide +kernel
set_option maxRecDepth 100000 in
theorem zc_X1_writeAlike : Jvm.Cond.code (zMy zr_X1_writeAlike) (zMb zr_X1_writeAlike) (zMl zr_X1_writeAlike) (zMr zr_X1_writeAlike) ∈ zgt ∧ Jvm.Cond.initialized (zMy zr_X1_writeAlike).cls ∈ zgt ∧ plainFor (zMy zr_X1_writeAlike) = true := ⟨zg_of (List.mem_of_getElem? (i := 1082) (by rfl)) rfl, zg_of (List.mem_of_getElem? (i := 110) (by rfl)) rfl, by decide +kernel⟩
