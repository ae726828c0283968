set_option maxRecDepth 100000 in
theorem zk_X1_part : zca zrecs zr_X1_part 0 zo_X1_part zq_X1_part = true := by decide +kernel
theorem zd_X1_part : zdown 40 zo_X1_part = true := by decide +kernel
set_option maxRecDepth 100000 in
theorem zc_X1_part : Jvm.Cond.code (zMy zr_X1_part) (zMb zr_X1_part) (zMl zr_X1_part) (zMr zr_X1_part) ∈ zgt ∧ Jvm.Cond.initialized (zMy zr_X1_part).cls ∈ zgt ∧ plainFor (zMy zr_X1_part) = true := ⟨zg_of (List.mem_of_getElem? (i := 1078) (by rfl)) rfl, zg_of (List.mem_of_getElem? (i := 110) (by rfl)) rfl, by decide +kernel⟩
set_option maxRecDepth 100000 in
theorem zk_X1_setEnd : zca zrecs zr_X1_setEnd 0 zo_X1_setEnd zq_X1_setEnd = true := by decide +kernel
theorem zd_X1_setEnd : zdown 41 zo_X1_setEnd = true := by decide +kernel
set_option maxRecDepth 100000 in
theorem zc_X1_setEnd : Jvm.Cond.code (zMy zr_X1_setEnd) (zMb zr_X1_setEnd) (zMl zr_X1_setEnd) (zMr zr_X1_setEnd) ∈ zgt ∧ Jvm.Cond.initialized (zMy zr_X1_setEnd).cls ∈ zgt ∧ plainFor (zMy zr_X1_setEnd) = true := ⟨zg_of (List.mem_of_getElem? (i := 1038) (by rfl)) rfl, zg_of (List.mem_of_getElem? (i := 110) (by rfl)) rfl, by decide +kernel⟩
set_option maxRecDepth 100000 in
theorem zk_X10_letterAt : zca zrecs zr_X10_letterAt 0 zo_X10_letterAt zq_X10_letterAt = true := by decide +kernel
theorem zd_X10_letterAt : zdown 42 zo_X10_letterAt = true := by decide +kernel
set_option maxRecDepth 100000 in
theorem zc_X10_letterAt : Jvm.Cond.code (zMy zr_X10_letterAt) (zMb zr_X10_letterAt) (zMl zr_X10_letterAt) (zMr zr_X10_letterAt) ∈ zgt ∧ Jvm.Cond.initialized (zMy zr_X10_letterAt).cls ∈ zgt ∧ plainFor (zMy zr_X10_letterAt) = true := ⟨zg_of (List.mem_of_getElem? (i := 775) (by rfl)) rfl, zg_of (List.mem_of_getElem? (i := 102) (by rfl)) rfl, by decide +kernel⟩
set_option maxRecDepth 100000 in
theorem zk_X10_commonWith_ : zca zrecs zr_X10_commonWith_ 0 zo_X10_commonWith_ zq_X10_commonWith_ = true := by decide +kernel
theorem zd_X10_commonWith_ : zdown 43 zo_X10_commonWith_ = true := by decide +kernel
set_option maxRecDepth 100000 in
theorem zc_X10_commonWith_ : Jvm.Cond.code (zMy zr_X10_commonWith_) (zMb zr_X10_commonWith_) (zMl zr_X10_commonWith_) (zMr zr_X10_commonWith_) ∈ zgt ∧ Jvm.Cond.initialized (zMy zr_X10_commonWith_).cls ∈ zgt ∧ plainFor (zMy zr_X10_commonWith_) = true := ⟨zg_of (List.mem_of_getElem? (i := 1068) (by rfl)) rfl, zg_of (List.mem_of_getElem? (i := 102) (by rfl)) rfl, by decide +kernel⟩
set_option maxRecDepth 100000 in
theorem zk_X1_commonLength : zca zrecs zr_X1_commonLength 0 zo_X1_commonLength zq_X1_commonLength = true := by decide +kernel
theorem zd_X1_commonLength : zdown 44 zo_X1_commonLength = true := by decide +kernel
set_option maxRecDepth 100000 in
theorem zc_X1_commonLength : Jvm.Cond.code (zMy zr_X1_commonLength) (zMb zr_X1_commonLength) (zMl zr_X1_commonLength) (zMr zr_X1_commonLength) ∈ zgt ∧ Jvm.Cond.initialized (zMy zr_X1_commonLength).cls ∈ zgt ∧ plainFor (zMy zr_X1_commonLength) = true := ⟨zg_of (List.mem_of_getElem? (i := 1062) (by rfl)) rfl, zg_of (List.mem_of_getElem? (i := 110) (by rfl)) rfl, by decide +kernel⟩
set_option maxRecDepth 100000 in
theorem zk_X1_shortenCommons : zca zrecs zr_X1_shortenCommons 0 zo_X1_shortenCommons zq_X1_shortenCommons = true := by decide +kernel
theorem zd_X1_shortenCommons : zdown 45 zo_X1_shortenCommons = true := by decide +kernel
set_option maxRecDepth 100000 in
theorem zc_X1_shortenCommons : Jvm.Cond.code (zMy zr_X1_shortenCommons) (zMb zr_X1_shortenCommons) (zMl zr_X1_shortenCommons) (zMr zr_X1_shortenCommons) ∈ zgt ∧ Jvm.Cond.initialized (zMy zr_X1_shortenCommons).cls ∈ zgt ∧ plainFor (zMy zr_X1_shortenCommons) = true := ⟨zg_of (List.mem_of_getElem? (i := 1058) (by rfl)) rfl, zg_of (List.mem_of_getElem? (i := 110) (by rfl)) rfl, by decide +kernel⟩
set_option maxRecDepth 100000 in
theorem zk_X1_writeEarly : zca zrecs zr_X1_writeEarly 0 zo_X1_writeEarly zq_X1_writeEarly = true := by decide +kernel
theorem zd_X1_writeEarly : zdown 46 zo_X1_writeEarly = true := by decide +kernel
set_option maxRecDepth 100000 in
theorem zc_X1_writeEarly : Jvm.Cond.code (zMy zr_X1_writeEarly) (zMb zr_X1_writeEarly) (zMl zr_X1_writeEarly) (zMr zr_X1_writeEarly) ∈ zgt ∧ Jvm.Cond.initialized (zMy zr_X1_writeEarly).cls ∈ zgt ∧ plainFor (zMy zr_X1_writeEarly) = true := ⟨zg_of (List.mem_of_getElem? (i := 1073) (by rfl)) rfl, zg_of (List.mem_of_getElem? (i := 110) (by rfl)) rfl, by decide +kernel⟩
set_option maxRecDepth 100000 in
theorem zk_X1_make : zca zrecs zr_X1_make 0 zo_X1_make zq_X1_make = true := by decide +kernel
theorem zd_X1_make : zdown 47 zo_X1_make = true := by decide +kernel
set_option maxRecDepth 100000 in
theorem zc_X1_make : Jvm.Cond.code (zMy zr_X1_make) (zMb zr_X1_make) (zMl zr_X1_make) (zMr zr_X1_make) ∈ zgt ∧ Jvm.Cond.initialized (zMy zr_X1_make).cls ∈ zgt ∧ plainFor (zMy zr_X1_make) = true := ⟨zg_of (List.mem_of_getElem? (i := 1034) (by rfl)) rfl, zg_of (List.mem_of_getElem? (i := 110) (by rfl)) rfl, by decide +kernel⟩
set_option maxRecDepth 100000 in
theorem zk_X11_isInputLetter : zca zrecs zr_X11_isInputLetter 0 zo_X11_isInputLetter zq_X11_isInputLetter = true := by decide +kernel
theorem zd_X11_isInputLetter : zdown 48 zo_X11_isInputLetter = true := by decide +kernel
set_option maxRecDepth 100000 in
theorem zc_X11_isInputLetter : Jvm.Cond.code (zMy zr_X11_isInputLetter) (zMb zr_X11_isInputLetter) (zMl zr_X11_isInputLetter) (zMr zr_X11_isInputLetter) ∈ zgt ∧ Jvm.Cond.initialized (zMy zr_X11_isInputLetter).cls ∈ zgt ∧ plainFor (zMy zr_X11_isInputLetter) = true := ⟨zg_of (List.mem_of_getElem? (i := 618) (by rfl)) rfl, zg_of (List.mem_of_getElem? (i := 98) (by rfl)) rfl, by decide +kernel⟩
set_option maxRecDepth 100000 in
theorem zk_X1_stateBehind : zca zrecs zr_X1_stateBehind 0 zo_X1_stateBehind zq_X1_stateBehind = true := by decide +kernel
theorem zd_X1_stateBehind : zdown 49 zo_X1_stateBehind = true := by decide +kernel
set_option maxRecDepth 100000 in
theorem zc_X1_stateBehind : Jvm.Cond.code (zMy zr_X1_stateBehind) (zMb zr_X1_stateBehind) (zMl zr_X1_stateBehind) (zMr zr_X1_stateBehind) ∈ zgt ∧ Jvm.Cond.initialized (zMy zr_X1_stateBehind).cls ∈ zgt ∧ plainFor (zMy zr_X1_stateBehind) = true := ⟨zg_of (List.mem_of_getElem? (i := 661) (by rfl)) rfl, zg_of (List.mem_of_getElem? (i := 110) (by rfl)) rfl, by decide +kernel⟩
set_option maxRecDepth 100000 in
theorem zk_X1_beginWord : zca zrecs zr_X1_beginWord 0 zo_X1_beginWord zq_X1_beginWord = true := by decide +kernel
theorem zd_X1_beginWord : zdown 50 zo_X1_beginWord = true := by decide +kernel
set_option maxRecDepth 100000 in
theorem zc_X1_beginWord : Jvm.Cond.code (zMy zr_X1_beginWord) (zMb zr_X1_beginWord) (zMl zr_X1_beginWord) (zMr zr_X1_beginWord) ∈ zgt ∧ Jvm.Cond.initialized (zMy zr_X1_beginWord).cls ∈ zgt ∧ plainFor (zMy zr_X1_beginWord) = true := ⟨zg_of (List.mem_of_getElem? (i := 649) (by rfl)) rfl, zg_of (List.mem_of_getElem? (i := 110) (by rfl)) rfl, by decide +kernel⟩
set_option maxRecDepth 100000 in
theorem zk_X1_wordOf : zca zrecs zr_X1_wordOf 0 zo_X1_wordOf zq_X1_wordOf = true := by decide +kernel
theorem zd_X1_wordOf : zdown 51 zo_X1_wordOf = true := by decide +kernel
set_option maxRecDepth 100000 in
theorem zc_X1_wordOf : Jvm.Cond.code (zMy zr_X1_wordOf) (zMb zr_X1_wordOf) (zMl zr_X1_wordOf) (zMr zr_X1_wordOf) ∈ zgt ∧ Jvm.Cond.initialized (zMy zr_X1_wordOf).cls ∈ zgt ∧ plainFor (zMy zr_X1_wordOf) = true := ⟨zg_of (List.mem_of_getElem? (i := 657) (by rfl)) rfl, zg_of (List.mem_of_getElem? (i := 110) (by rfl)) rfl, by decide +kernel⟩
set_option maxRecDepth 100000 in
theorem zk_X1_accepts : zca zrecs zr_X1_accepts 0 zo_X1_accepts zq_X1_accepts = true := by decide +kernel
theorem zd_X1_accepts : zdown 52 zo_X1_accepts = true := by decide +kernel
set_option maxRecDepth 100000 in
theorem zc_X1_accepts : Jvm.Cond.code (zMy zr_X1_accepts) (zMb zr_X1_accepts) (zMl zr_X1_accepts) (zMr zr_X1_accepts) ∈ zgt ∧ Jvm.Cond.initialized (zMy zr_X1_accepts).cls ∈ zgt ∧ plainFor (zMy zr_X1_accepts) = true := ⟨zg_of (List.mem_of_getElem? (i := 1135) (by rfl)) rfl, zg_of (List.mem_of_getElem? (i := 110) (by rfl)) rfl, by decide +kernel⟩
set_option maxRecDepth 100000 in
theorem zk_X1_addWordOf : zca zrecs zr_X1_addWordOf 0 zo_X1_addWordOf zq_X1_addWordOf = true := by decide +kernel
theorem zd_X1_addWordOf : zdown 53 zo_X1_addWordOf = true := by decide +kernel
set_option maxRecDepth 100000 in
theorem zc_X1_addWordOf : Jvm.Cond.code (zMy zr_X1_addWordOf) (zMb zr_X1_addWordOf) (zMl zr_X1_addWordOf) (zMr zr_X1_addWordOf) ∈ zgt ∧ Jvm.Cond.initialized (zMy zr_X1_addWordOf).cls ∈ zgt ∧ plainFor (zMy zr_X1_addWordOf) = true := ⟨zg_of (List.mem_of_getElem? (i := 1143) (by rfl)) rfl, zg_of (List.mem_of_getElem? (i := 110) (by rfl)) rfl, by decide +kernel⟩
set_option maxRecDepth 100000 in
theorem zk_X1_translate : zca zrecs zr_X1_translate 0 zo_X1_translate zq_X1_translate = true := by decide +kernel
theorem zd_X1_translate : zdown 54 zo_X1_translate = true := by decide +kernel
set_option maxRecDepth 100000 in
theorem zc_X1_translate : Jvm.Cond.code (zMy zr_X1_translate) (zMb zr_X1_translate) (zMl zr_X1_translate) (zMr zr_X1_translate) ∈ zgt ∧ Jvm.Cond.initialized (zMy zr_X1_translate).cls ∈ zgt ∧ plainFor (zMy zr_X1_translate) = true := ⟨zg_of (List.mem_of_getElem? (i := 1139) (by rfl)) rfl, zg_of (List.mem_of_getElem? (i := 110) (by rfl)) rfl, by decide +kernel⟩
set_option maxRecDepth 100000 in
theorem zk_X1_fitsMachine : zca zrecs zr_X1_fitsMachine 0 zo_X1_fitsMachine zq_X1_fitsMachine = true := by decide +kernel
theorem zd_X1_fitsMachine : zdown 55 zo_X1_fitsMachine = true := by decide +kernel
set_option maxRecDepth 100000 in
theorem zc_X1_fitsMachine : Jvm.Cond.code (zMy zr_X1_fitsMachine) (zMb zr_X1_fitsMachine) (zMl zr_X1_fitsMachine) (zMr zr_X1_fitsMachine) ∈ zgt ∧ Jvm.Cond.initialized (zMy zr_X1_fitsMachine).cls ∈ zgt ∧ plainFor (zMy zr_X1_fitsMachine) = true := ⟨zg_of (List.mem_of_getElem? (i := 645) (by rfl)) rfl, zg_of (List.mem_of_getElem? (i := 110) (by rfl)) rfl, by decide +kernel⟩
set_option maxRecDepth 100000 in
theorem zk_X2_addArc : zca zrecs zr_X2_addArc 0 zo_X2_addArc zq_X2_addArc = true := by decide +kernel
theorem zd_X2_addArc : zdown 56 zo_X2_addArc = true := by decide +kernel
set_option maxRecDepth 100000 in
theorem zc_X2_addArc : Jvm.Cond.code (zMy zr_X2_addArc) (zMb zr_X2_addArc) (zMl zr_X2_addArc) (zMr zr_X2_addArc) ∈ zgt ∧ Jvm.Cond.initialized (zMy zr_X2_addArc).cls ∈ zgt ∧ plainFor (zMy zr_X2_addArc) = true := ⟨zg_of (List.mem_of_getElem? (i := 622) (by rfl)) rfl, zg_of (List.mem_of_getElem? (i := 99) (by rfl)) rfl, by decide +kernel⟩
set_option maxRecDepth 100000 in
theorem zk_X2_renew : zca zrecs zr_X2_renew 0 zo_X2_renew zq_X2_renew = true := by decide +kernel
theorem zd_X2_renew : zdown 57 zo_X2_renew = true := by decide +kernel
set_option maxRecDepth 100000 in
theorem zc_X2_renew : Jvm.Cond.code (zMy zr_X2_renew) (zMb zr_X2_renew) (zMl zr_X2_renew) (zMr zr_X2_renew) ∈ zgt ∧ Jvm.Cond.initialized (zMy zr_X2_renew).cls ∈ zgt ∧ plainFor (zMy zr_X2_renew) = true := ⟨zg_of (List.mem_of_getElem? (i := 133) (by rfl)) rfl, zg_of (List.mem_of_getElem? (i := 99) (by rfl)) rfl, by decide +kernel⟩
set_option maxRecDepth 100000 in
theorem zk_X2_setBeginning : zca zrecs zr_X2_setBeginning 0 zo_X2_setBeginning zq_X2_setBeginning = true := by decide +kernel
theorem zd_X2_setBeginning : zdown 58 zo_X2_setBeginning = true := by decide +kernel
set_option maxRecDepth 100000 in
theorem zc_X2_setBeginning : Jvm.Cond.code (zMy zr_X2_setBeginning) (zMb zr_X2_setBeginning) (zMl zr_X2_setBeginning) (zMr zr_X2_setBeginning) ∈ zgt ∧ Jvm.Cond.initialized (zMy zr_X2_setBeginning).cls ∈ zgt ∧ plainFor (zMy zr_X2_setBeginning) = true := ⟨zg_of (List.mem_of_getElem? (i := 604) (by rfl)) rfl, zg_of (List.mem_of_getElem? (i := 99) (by rfl)) rfl, by decide +kernel⟩
set_option maxRecDepth 100000 in
theorem zk_X10_number : zca zrecs zr_X10_number 0 zo_X10_number zq_X10_number = true := by decide +kernel
theorem zd_X10_number : zdown 59 zo_X10_number = true := by decide +kernel
set_option maxRecDepth 100000 in
theorem zc_X10_number : Jvm.Cond.code (zMy zr_X10_number) (zMb zr_X10_number) (zMl zr_X10_number) (zMr zr_X10_number) ∈ zgt ∧ Jvm.Cond.initialized (zMy zr_X10_number).cls ∈ zgt ∧ plainFor (zMy zr_X10_number) = true := ⟨zg_of (List.mem_of_getElem? (i := 672) (by rfl)) rfl, zg_of (List.mem_of_getElem? (i := 102) (by rfl)) rfl, by decide +kernel⟩
set_option maxRecDepth 100000 in
theorem zk_X1_fill : zca zrecs zr_X1_fill 0 zo_X1_fill zq_X1_fill = true := by decide +kernel
theorem zd_X1_fill : zdown 60 zo_X1_fill = true := by decide +kernel
set_option maxRecDepth 100000 in
theorem zc_X1_fill : Jvm.Cond.code (zMy zr_X1_fill) (zMb zr_X1_fill) (zMl zr_X1_fill) (zMr zr_X1_fill) ∈ zgt ∧ Jvm.Cond.initialized (zMy zr_X1_fill).cls ∈ zgt ∧ plainFor (zMy zr_X1_fill) = true := ⟨zg_of (List.mem_of_getElem? (i := 666) (by rfl)) rfl, zg_of (List.mem_of_getElem? (i := 110) (by rfl)) rfl, by decide +kernel⟩
set_option maxRecDepth 100000 in
theorem zk_X2_init : zca zrecs zr_X2_init 0 zo_X2_init zq_X2_init = true := by decide +kernel
theorem zd_X2_init : zdown 61 zo_X2_init = true := by decide +kernel
set_option maxRecDepth 100000 in
theorem zc_X2_init : Jvm.Cond.code (zMy zr_X2_init) (zMb zr_X2_init) (zMl zr_X2_init) (zMr zr_X2_init) ∈ zgt ∧ Jvm.Cond.initialized (zMy zr_X2_init).cls ∈ zgt ∧ plainFor (zMy zr_X2_init) = true := ⟨zg_of (List.mem_of_getElem? (i := 128) (by rfl)) rfl, zg_of (List.mem_of_getElem? (i := 99) (by rfl)) rfl, by decide +kernel⟩
set_option maxRecDepth 100000 in
theorem zk_X2_become : zca zrecs zr_X2_become 0 zo_X2_become zq_X2_become = true := by decide +kernel
theorem zd_X2_become : zdown 62 zo_X2_become = true := by decide +kernel
set_option maxRecDepth 100000 in
theorem zc_X2_become : Jvm.Cond.code (zMy zr_X2_become) (zMb zr_X2_become) (zMl zr_X2_become) (zMr zr_X2_become) ∈ zgt ∧ Jvm.Cond.initialized (zMy zr_X2_become).cls ∈ zgt ∧ plainFor (zMy zr_X2_become) = true := ⟨zg_of (List.mem_of_getElem? (i := 630) (by rfl)) rfl, zg_of (List.mem_of_getElem? (i := 99) (by rfl)) rfl, by decide +kernel⟩
set_option maxRecDepth 100000 in
theorem zk_X2_ending : zca zrecs zr_X2_ending 0 zo_X2_ending zq_X2_ending = true := by decide +kernel
theorem zd_X2_ending : zdown 63 zo_X2_ending = true := by decide +kernel
set_option maxRecDepth 100000 in
theorem zc_X2_ending : Jvm.Cond.code (zMy zr_X2_ending) (zMb zr_X2_ending) (zMl zr_X2_ending) (zMr zr_X2_ending) ∈ zgt ∧ Jvm.Cond.initialized (zMy zr_X2_ending).cls ∈ zgt ∧ plainFor (zMy zr_X2_ending) = true := ⟨zg_of (List.mem_of_getElem? (i := 685) (by rfl)) rfl, zg_of (List.mem_of_getElem? (i := 99) (by rfl)) rfl, by decide +kernel⟩
set_option maxRecDepth 100000 in
theorem zk_X2_usefulStates : zca zrecs zr_X2_usefulStates 0 zo_X2_usefulStates zq_X2_usefulStates = true := by decide +kernel
theorem zd_X2_usefulStates : zdown 64 zo_X2_usefulStates = true := by decide +kernel
set_option maxRecDepth 100000 in
theorem zc_X2_usefulStates : Jvm.Cond.code (zMy zr_X2_usefulStates) (zMb zr_X2_usefulStates) (zMl zr_X2_usefulStates) (zMr zr_X2_usefulStates) ∈ zgt ∧ Jvm.Cond.initialized (zMy zr_X2_usefulStates).cls ∈ zgt ∧ plainFor (zMy zr_X2_usefulStates) = true := ⟨zg_of (List.mem_of_getElem? (i := 681) (by rfl)) rfl, zg_of (List.mem_of_getElem? (i := 99) (by rfl)) rfl, by decide +kernel⟩
set_option maxRecDepth 100000 in
theorem zk_X2_follow : zca zrecs zr_X2_follow 0 zo_X2_follow zq_X2_follow = true := by decide +kernel
theorem zd_X2_follow : zdown 65 zo_X2_follow = true := by decide +kernel
set_option maxRecDepth 100000 in
theorem zc_X2_follow : Jvm.Cond.code (zMy zr_X2_follow) (zMb zr_X2_follow) (zMl zr_X2_follow) (zMr zr_X2_follow) ∈ zgt ∧ Jvm.Cond.initialized (zMy zr_X2_follow).cls ∈ zgt ∧ plainFor (zMy zr_X2_follow) = true := ⟨zg_of (List.mem_of_getElem? (i := 930) (by rfl)) rfl, zg_of (List.mem_of_getElem? (i := 99) (by rfl)) rfl, by decide +kernel⟩
set_option maxRecDepth 100000 in
theorem zk_X3_init : zca zrecs zr_X3_init 0 zo_X3_init zq_X3_init = true := by decide +kernel
theorem zd_X3_init : zdown 66 zo_X3_init = true := by decide +kernel
set_option maxRecDepth 100000 in
theorem zc_X3_init : Jvm.Cond.code (zMy zr_X3_init) (zMb zr_X3_init) (zMl zr_X3_init) (zMr zr_X3_init) ∈ zgt ∧ Jvm.Cond.initialized (zMy zr_X3_init).cls ∈ zgt ∧ plainFor (zMy zr_X3_init) = true := ⟨zg_of (List.mem_of_getElem? (i := 210) (by rfl)) rfl, zg_of (List.mem_of_getElem? (i := 101) (by rfl)) rfl, by decide +kernel⟩
set_option maxRecDepth 100000 in
theorem zk_X3_begin : zca zrecs zr_X3_begin 0 zo_X3_begin zq_X3_begin = true := by decide +kernel
theorem zd_X3_begin : zdown 67 zo_X3_begin = true := by decide +kernel
set_option maxRecDepth 100000 in
theorem zc_X3_begin : Jvm.Cond.code (zMy zr_X3_begin) (zMb zr_X3_begin) (zMl zr_X3_begin) (zMr zr_X3_begin) ∈ zgt ∧ Jvm.Cond.initialized (zMy zr_X3_begin).cls ∈ zgt ∧ plainFor (zMy zr_X3_begin) = true := ⟨zg_of (List.mem_of_getElem? (i := 730) (by rfl)) rfl, zg_of (List.mem_of_getElem? (i := 101) (by rfl)) rfl, by decide +kernel⟩
set_option maxRecDepth 100000 in
theorem zk_J6_compare_7cf53 : zca zrecs zr_J6_compare_7cf53 0 zo_J6_compare_7cf53 zq_J6_compare_7cf53 = true := by decide +kernel
theorem zd_J6_compare_7cf53 : zdown 68 zo_J6_compare_7cf53 = true := by decide +kernel
set_option maxRecDepth 100000 in
theorem zc_J6_compare_7cf53 : Jvm.Cond.code (zMy zr_J6_compare_7cf53) (zMb zr_J6_compare_7cf53) (zMl zr_J6_compare_7cf53) (zMr zr_J6_compare_7cf53) ∈ zgt ∧ Jvm.Cond.initialized (zMy zr_J6_compare_7cf53).cls ∈ zgt ∧ plainFor (zMy zr_J6_compare_7cf53) = true := ⟨zg_of (List.mem_of_getElem? (i := 778) (by rfl)) rfl, zg_of (List.mem_of_getElem? (i := 113) (by rfl)) rfl, by decide +kernel⟩
set_option maxRecDepth 100000 in
theorem zk_X10_compareWith : zca zrecs zr_X10_compareWith 0 zo_X10_compareWith zq_X10_compareWith = true := by decide +kernel
theorem zd_X10_compareWith : zdown 69 zo_X10_compareWith = true := by decide +kernel
set_option maxRecDepth 100000 in
theorem zc_X10_compareWith : Jvm.Cond.code (zMy zr_X10_compareWith) (zMb zr_X10_compareWith) (zMl zr_X10_compareWith) (zMr zr_X10_compareWith) ∈ zgt ∧ Jvm.Cond.initialized (zMy zr_X10_compareWith).cls ∈ zgt ∧ plainFor (zMy zr_X10_compareWith) = true := ⟨zg_of (List.mem_of_getElem? (i := 767) (by rfl)) rfl, zg_of (List.mem_of_getElem? (i := 102) (by rfl)) rfl, by decide +kernel⟩
set_option maxRecDepth 100000 in
theorem zk_X3_sortIn : zca zrecs zr_X3_sortIn 0 zo_X3_sortIn zq_X3_sortIn = true := by decide +kernel
theorem zd_X3_sortIn : zdown 70 zo_X3_sortIn = true := by decide +kernel
set_option maxRecDepth 100000 in
theorem zc_X3_sortIn : Jvm.Cond.code (zMy zr_X3_sortIn) (zMb zr_X3_sortIn) (zMl zr_X3_sortIn) (zMr zr_X3_sortIn) ∈ zgt ∧ Jvm.Cond.initialized (zMy zr_X3_sortIn).cls ∈ zgt ∧ plainFor (zMy zr_X3_sortIn) = true := ⟨zg_of (List.mem_of_getElem? (i := 763) (by rfl)) rfl, zg_of (List.mem_of_getElem? (i := 101) (by rfl)) rfl, by decide +kernel⟩
set_option maxRecDepth 100000 in
theorem zk_X3_finish : zca zrecs zr_X3_finish 0 zo_X3_finish zq_X3_finish = true := by decide +kernel
theorem zd_X3_finish : zdown 71 zo_X3_finish = true := by decide +kernel
set_option maxRecDepth 100000 in
theorem zc_X3_finish : Jvm.Cond.code (zMy zr_X3_finish) (zMb zr_X3_finish) (zMl zr_X3_finish) (zMr zr_X3_finish) ∈ zgt ∧ Jvm.Cond.initialized (zMy zr_X3_finish).cls ∈ zgt ∧ plainFor (zMy zr_X3_finish) = true := ⟨zg_of (List.mem_of_getElem? (i := 758) (by rfl)) rfl, zg_of (List.mem_of_getElem? (i := 101) (by rfl)) rfl, by decide +kernel⟩
set_option maxRecDepth 100000 in
theorem zk_X3_reach : zca zrecs zr_X3_reach 0 zo_X3_reach zq_X3_reach = true := by decide +kernel
theorem zd_X3_reach : zdown 72 zo_X3_reach = true := by decide +kernel
set_option maxRecDepth 100000 in
theorem zc_X3_reach : Jvm.Cond.code (zMy zr_X3_reach) (zMb zr_X3_reach) (zMl zr_X3_reach) (zMr zr_X3_reach) ∈ zgt ∧ Jvm.Cond.initialized (zMy zr_X3_reach).cls ∈ zgt ∧ plainFor (zMy zr_X3_reach) = true := ⟨zg_of (List.mem_of_getElem? (i := 746) (by rfl)) rfl, zg_of (List.mem_of_getElem? (i := 101) (by rfl)) rfl, by decide +kernel⟩
set_option maxRecDepth 100000 in
theorem zk_X3_turn : zca zrecs zr_X3_turn 0 zo_X3_turn zq_X3_turn = true := by decide +kernel
theorem zd_X3_turn : zdown 73 zo_X3_turn = true := by decide +kernel
set_option maxRecDepth 100000 in
theorem zc_X3_turn : Jvm.Cond.code (zMy zr_X3_turn) (zMb zr_X3_turn) (zMl zr_X3_turn) (zMr zr_X3_turn) ∈ zgt ∧ Jvm.Cond.initialized (zMy zr_X3_turn).cls ∈ zgt ∧ plainFor (zMy zr_X3_turn) = true := ⟨zg_of (List.mem_of_getElem? (i := 754) (by rfl)) rfl, zg_of (List.mem_of_getElem? (i := 101) (by rfl)) rfl, by decide +kernel⟩
set_option maxRecDepth 100000 in
theorem zk_X3_step : zca zrecs zr_X3_step 0 zo_X3_step zq_X3_step = true := by decide +kernel
theorem zd_X3_step : zdown 74 zo_X3_step = true := by decide +kernel
set_option maxRecDepth 100000 in
theorem zc_X3_step : Jvm.Cond.code (zMy zr_X3_step) (zMb zr_X3_step) (zMl zr_X3_step) (zMr zr_X3_step) ∈ zgt ∧ Jvm.Cond.initialized (zMy zr_X3_step).cls ∈ zgt ∧ plainFor (zMy zr_X3_step) = true := ⟨zg_of (List.mem_of_getElem? (i := 736) (by rfl)) rfl, zg_of (List.mem_of_getElem? (i := 101) (by rfl)) rfl, by decide +kernel⟩
set_option maxRecDepth 100000 in
theorem zk_X3_gather : zca zrecs zr_X3_gather 0 zo_X3_gather zq_X3_gather = true := by decide +kernel
theorem zd_X3_gather : zdown 75 zo_X3_gather = true := by decide +kernel
set_option maxRecDepth 100000 in
theorem zc_X3_gather : Jvm.Cond.code (zMy zr_X3_gather) (zMb zr_X3_gather) (zMl zr_X3_gather) (zMr zr_X3_gather) ∈ zgt ∧ Jvm.Cond.initialized (zMy zr_X3_gather).cls ∈ zgt ∧ plainFor (zMy zr_X3_gather) = true := ⟨zg_of (List.mem_of_getElem? (i := 726) (by rfl)) rfl, zg_of (List.mem_of_getElem? (i := 101) (by rfl)) rfl, by decide +kernel⟩
set_option maxRecDepth 100000 in
theorem zk_X4_longerSide : zca zrecs zr_X4_longerSide 0 zo_X4_longerSide zq_X4_longerSide = true := by decide +kernel
theorem zd_X4_longerSide : zdown 76 zo_X4_longerSide = true := by decide +kernel
set_option maxRecDepth 100000 in
theorem zc_X4_longerSide : Jvm.Cond.code (zMy zr_X4_longerSide) (zMb zr_X4_longerSide) (zMl zr_X4_longerSide) (zMr zr_X4_longerSide) ∈ zgt ∧ Jvm.Cond.initialized (zMy zr_X4_longerSide).cls ∈ zgt ∧ plainFor (zMy zr_X4_longerSide) = true := ⟨zg_of (List.mem_of_getElem? (i := 980) (by rfl)) rfl, zg_of (List.mem_of_getElem? (i := 104) (by rfl)) rfl, by decide +kernel⟩
set_option maxRecDepth 100000 in
theorem zk_X4_hash : zca zrecs zr_X4_hash 0 zo_X4_hash zq_X4_hash = true := by decide +kernel
theorem zd_X4_hash : zdown 77 zo_X4_hash = true := by decide +kernel
set_option maxRecDepth 100000 in
theorem zc_X4_hash : Jvm.Cond.code (zMy zr_X4_hash) (zMb zr_X4_hash) (zMl zr_X4_hash) (zMr zr_X4_hash) ∈ zgt ∧ Jvm.Cond.initialized (zMy zr_X4_hash).cls ∈ zgt ∧ plainFor (zMy zr_X4_hash) = true := ⟨zg_of (List.mem_of_getElem? (i := 985) (by rfl)) rfl, zg_of (List.mem_of_getElem? (i := 104) (by rfl)) rfl, by decide +kernel⟩
set_option maxRecDepth 100000 in
theorem zk_X5_init : zca zrecs zr_X5_init 0 zo_X5_init zq_X5_init = true := by decide +kernel
theorem zd_X5_init : zdown 78 zo_X5_init = true := by decide +kernel
set_option maxRecDepth 100000 in
theorem zc_X5_init : Jvm.Cond.code (zMy zr_X5_init) (zMb zr_X5_init) (zMl zr_X5_init) (zMr zr_X5_init) ∈ zgt ∧ Jvm.Cond.initialized (zMy zr_X5_init).cls ∈ zgt ∧ plainFor (zMy zr_X5_init) = true := ⟨zg_of (List.mem_of_getElem? (i := 344) (by rfl)) rfl, zg_of (List.mem_of_getElem? (i := 105) (by rfl)) rfl, by decide +kernel⟩
set_option maxRecDepth 100000 in
theorem zk_X5_reach : zca zrecs zr_X5_reach 0 zo_X5_reach zq_X5_reach = true := by decide +kernel
theorem zd_X5_reach : zdown 79 zo_X5_reach = true := by decide +kernel
set_option maxRecDepth 100000 in
theorem zc_X5_reach : Jvm.Cond.code (zMy zr_X5_reach) (zMb zr_X5_reach) (zMl zr_X5_reach) (zMr zr_X5_reach) ∈ zgt ∧ Jvm.Cond.initialized (zMy zr_X5_reach).cls ∈ zgt ∧ plainFor (zMy zr_X5_reach) = true := ⟨zg_of (List.mem_of_getElem? (i := 921) (by rfl)) rfl, zg_of (List.mem_of_getElem? (i := 105) (by rfl)) rfl, by decide +kernel⟩
