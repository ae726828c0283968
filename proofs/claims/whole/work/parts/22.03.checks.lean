set_option maxRecDepth 100000 in
theorem zk_X11_take : zca zrecs zr_X11_take 0 zo_X11_take zq_X11_take = true := by decide +kernel
theorem zd_X11_take : zdown 120 zo_X11_take = true := by decide +kernel
set_option maxRecDepth 100000 in
theorem zc_X11_take : Jvm.Cond.code (zMy zr_X11_take) (zMb zr_X11_take) (zMl zr_X11_take) (zMr zr_X11_take) ∈ zgt ∧ Jvm.Cond.initialized (zMy zr_X11_take).cls ∈ zgt ∧ plainFor (zMy zr_X11_take) = true := ⟨zg_of (List.mem_of_getElem? (i := 637) (by rfl)) rfl, zg_of (List.mem_of_getElem? (i := 98) (by rfl)) rfl, by decide +kernel⟩
set_option maxRecDepth 100000 in
theorem zk_X11_size : zca zrecs zr_X11_size 0 zo_X11_size zq_X11_size = true := by decide +kernel
theorem zd_X11_size : zdown 121 zo_X11_size = true := by decide +kernel
set_option maxRecDepth 100000 in
theorem zc_X11_size : Jvm.Cond.code (zMy zr_X11_size) (zMb zr_X11_size) (zMl zr_X11_size) (zMr zr_X11_size) ∈ zgt ∧ Jvm.Cond.initialized (zMy zr_X11_size).cls ∈ zgt ∧ plainFor (zMy zr_X11_size) = true := ⟨zg_of (List.mem_of_getElem? (i := 677) (by rfl)) rfl, zg_of (List.mem_of_getElem? (i := 98) (by rfl)) rfl, by decide +kernel⟩
set_option maxRecDepth 100000 in
theorem zk_X11_useful : zca zrecs zr_X11_useful 0 zo_X11_useful zq_X11_useful = true := by decide +kernel
theorem zd_X11_useful : zdown 122 zo_X11_useful = true := by decide +kernel
set_option maxRecDepth 100000 in
theorem zc_X11_useful : Jvm.Cond.code (zMy zr_X11_useful) (zMb zr_X11_useful) (zMl zr_X11_useful) (zMr zr_X11_useful) ∈ zgt ∧ Jvm.Cond.initialized (zMy zr_X11_useful).cls ∈ zgt ∧ plainFor (zMy zr_X11_useful) = true := ⟨zg_of (List.mem_of_getElem? (i := 702) (by rfl)) rfl, zg_of (List.mem_of_getElem? (i := 98) (by rfl)) rfl, by decide +kernel⟩
set_option maxRecDepth 100000 in
theorem zk_X11_isInput : zca zrecs zr_X11_isInput 0 zo_X11_isInput zq_X11_isInput = true := by decide +kernel
theorem zd_X11_isInput : zdown 123 zo_X11_isInput = true := by decide +kernel
set_option maxRecDepth 100000 in
theorem zc_X11_isInput : Jvm.Cond.code (zMy zr_X11_isInput) (zMb zr_X11_isInput) (zMl zr_X11_isInput) (zMr zr_X11_isInput) ∈ zgt ∧ Jvm.Cond.initialized (zMy zr_X11_isInput).cls ∈ zgt ∧ plainFor (zMy zr_X11_isInput) = true := ⟨zg_of (List.mem_of_getElem? (i := 709) (by rfl)) rfl, zg_of (List.mem_of_getElem? (i := 98) (by rfl)) rfl, by decide +kernel⟩
set_option maxRecDepth 100000 in
theorem zk_X11_apply : zca zrecs zr_X11_apply 0 zo_X11_apply zq_X11_apply = true := by decide +kernel
theorem zd_X11_apply : zdown 124 zo_X11_apply = true := by decide +kernel
set_option maxRecDepth 100000 in
theorem zc_X11_apply : Jvm.Cond.code (zMy zr_X11_apply) (zMb zr_X11_apply) (zMl zr_X11_apply) (zMr zr_X11_apply) ∈ zgt ∧ Jvm.Cond.initialized (zMy zr_X11_apply).cls ∈ zgt ∧ plainFor (zMy zr_X11_apply) = true := ⟨zg_of (List.mem_of_getElem? (i := 706) (by rfl)) rfl, zg_of (List.mem_of_getElem? (i := 98) (by rfl)) rfl, by decide +kernel⟩
set_option maxRecDepth 100000 in
theorem zk_X11_output : zca zrecs zr_X11_output 0 zo_X11_output zq_X11_output = true := by decide +kernel
theorem zd_X11_output : zdown 125 zo_X11_output = true := by decide +kernel
set_option maxRecDepth 100000 in
theorem zc_X11_output : Jvm.Cond.code (zMy zr_X11_output) (zMb zr_X11_output) (zMl zr_X11_output) (zMr zr_X11_output) ∈ zgt ∧ Jvm.Cond.initialized (zMy zr_X11_output).cls ∈ zgt ∧ plainFor (zMy zr_X11_output) = true := ⟨zg_of (List.mem_of_getElem? (i := 782) (by rfl)) rfl, zg_of (List.mem_of_getElem? (i := 98) (by rfl)) rfl, by decide +kernel⟩
set_option maxRecDepth 100000 in
theorem zk_X11_testFunctional : zca zrecs zr_X11_testFunctional 0 zo_X11_testFunctional zq_X11_testFunctional = true := by decide +kernel
theorem zd_X11_testFunctional : zdown 126 zo_X11_testFunctional = true := by decide +kernel
set_option maxRecDepth 100000 in
theorem zc_X11_testFunctional : Jvm.Cond.code (zMy zr_X11_testFunctional) (zMb zr_X11_testFunctional) (zMl zr_X11_testFunctional) (zMr zr_X11_testFunctional) ∈ zgt ∧ Jvm.Cond.initialized (zMy zr_X11_testFunctional).cls ∈ zgt ∧ plainFor (zMy zr_X11_testFunctional) = true := ⟨zg_of (List.mem_of_getElem? (i := 791) (by rfl)) rfl, zg_of (List.mem_of_getElem? (i := 98) (by rfl)) rfl, by decide +kernel⟩
set_option maxRecDepth 100000 in
theorem zk_X11_functional : zca zrecs zr_X11_functional 0 zo_X11_functional zq_X11_functional = true := by decide +kernel
theorem zd_X11_functional : zdown 127 zo_X11_functional = true := by decide +kernel
set_option maxRecDepth 100000 in
theorem zc_X11_functional : Jvm.Cond.code (zMy zr_X11_functional) (zMb zr_X11_functional) (zMl zr_X11_functional) (zMr zr_X11_functional) ∈ zgt ∧ Jvm.Cond.initialized (zMy zr_X11_functional).cls ∈ zgt ∧ plainFor (zMy zr_X11_functional) = true := ⟨zg_of (List.mem_of_getElem? (i := 787) (by rfl)) rfl, zg_of (List.mem_of_getElem? (i := 98) (by rfl)) rfl, by decide +kernel⟩
set_option maxRecDepth 100000 in
theorem zk_X11_readers : zca zrecs zr_X11_readers 0 zo_X11_readers zq_X11_readers = true := by decide +kernel
theorem zd_X11_readers : zdown 128 zo_X11_readers = true := by decide +kernel
set_option maxRecDepth 100000 in
theorem zc_X11_readers : Jvm.Cond.code (zMy zr_X11_readers) (zMb zr_X11_readers) (zMl zr_X11_readers) (zMr zr_X11_readers) ∈ zgt ∧ Jvm.Cond.initialized (zMy zr_X11_readers).cls ∈ zgt ∧ plainFor (zMy zr_X11_readers) = true := ⟨zg_of (List.mem_of_getElem? (i := 913) (by rfl)) rfl, zg_of (List.mem_of_getElem? (i := 98) (by rfl)) rfl, by decide +kernel⟩
set_option maxRecDepth 100000 in
theorem zk_X11_same : zca zrecs zr_X11_same 0 zo_X11_same zq_X11_same = true := by decide +kernel
theorem zd_X11_same : zdown 129 zo_X11_same = true := by decide +kernel
set_option maxRecDepth 100000 in
theorem zc_X11_same : Jvm.Cond.code (zMy zr_X11_same) (zMb zr_X11_same) (zMl zr_X11_same) (zMr zr_X11_same) ∈ zgt ∧ Jvm.Cond.initialized (zMy zr_X11_same).cls ∈ zgt ∧ plainFor (zMy zr_X11_same) = true := ⟨zg_of (List.mem_of_getElem? (i := 945) (by rfl)) rfl, zg_of (List.mem_of_getElem? (i := 98) (by rfl)) rfl, by decide +kernel⟩
set_option maxRecDepth 100000 in
theorem zk_X11_makeSequential : zca zrecs zr_X11_makeSequential 0 zo_X11_makeSequential zq_X11_makeSequential = true := by decide +kernel
theorem zd_X11_makeSequential : zdown 130 zo_X11_makeSequential = true := by decide +kernel
set_option maxRecDepth 100000 in
theorem zc_X11_makeSequential : Jvm.Cond.code (zMy zr_X11_makeSequential) (zMb zr_X11_makeSequential) (zMl zr_X11_makeSequential) (zMr zr_X11_makeSequential) ∈ zgt ∧ Jvm.Cond.initialized (zMy zr_X11_makeSequential).cls ∈ zgt ∧ plainFor (zMy zr_X11_makeSequential) = true := ⟨zg_of (List.mem_of_getElem? (i := 954) (by rfl)) rfl, zg_of (List.mem_of_getElem? (i := 98) (by rfl)) rfl, by decide +kernel⟩
set_option maxRecDepth 100000 in
theorem zk_X11_sequential : zca zrecs zr_X11_sequential 0 zo_X11_sequential zq_X11_sequential = true := by decide +kernel
theorem zd_X11_sequential : zdown 131 zo_X11_sequential = true := by decide +kernel
set_option maxRecDepth 100000 in
theorem zc_X11_sequential : Jvm.Cond.code (zMy zr_X11_sequential) (zMb zr_X11_sequential) (zMl zr_X11_sequential) (zMr zr_X11_sequential) ∈ zgt ∧ Jvm.Cond.initialized (zMy zr_X11_sequential).cls ∈ zgt ∧ plainFor (zMy zr_X11_sequential) = true := ⟨zg_of (List.mem_of_getElem? (i := 950) (by rfl)) rfl, zg_of (List.mem_of_getElem? (i := 98) (by rfl)) rfl, by decide +kernel⟩
set_option maxRecDepth 100000 in
theorem zk_X11_witness : zca zrecs zr_X11_witness 0 zo_X11_witness zq_X11_witness = true := by decide +kernel
theorem zd_X11_witness : zdown 132 zo_X11_witness = true := by decide +kernel
set_option maxRecDepth 100000 in
theorem zc_X11_witness : Jvm.Cond.code (zMy zr_X11_witness) (zMb zr_X11_witness) (zMl zr_X11_witness) (zMr zr_X11_witness) ∈ zgt ∧ Jvm.Cond.initialized (zMy zr_X11_witness).cls ∈ zgt ∧ plainFor (zMy zr_X11_witness) = true := ⟨zg_of (List.mem_of_getElem? (i := 1105) (by rfl)) rfl, zg_of (List.mem_of_getElem? (i := 98) (by rfl)) rfl, by decide +kernel⟩
set_option maxRecDepth 100000 in
theorem zk_X11_wrote : zca zrecs zr_X11_wrote 0 zo_X11_wrote zq_X11_wrote = true := by decide +kernel
theorem zd_X11_wrote : zdown 133 zo_X11_wrote = true := by decide +kernel
set_option maxRecDepth 100000 in
theorem zc_X11_wrote : Jvm.Cond.code (zMy zr_X11_wrote) (zMb zr_X11_wrote) (zMl zr_X11_wrote) (zMr zr_X11_wrote) ∈ zgt ∧ Jvm.Cond.initialized (zMy zr_X11_wrote).cls ∈ zgt ∧ plainFor (zMy zr_X11_wrote) = true := ⟨zg_of (List.mem_of_getElem? (i := 1109) (by rfl)) rfl, zg_of (List.mem_of_getElem? (i := 98) (by rfl)) rfl, by decide +kernel⟩
set_option maxRecDepth 100000 in
theorem zk_X11_told : zca zrecs zr_X11_told 0 zo_X11_told zq_X11_told = true := by decide +kernel
theorem zd_X11_told : zdown 134 zo_X11_told = true := by decide +kernel
set_option maxRecDepth 100000 in
theorem zc_X11_told : Jvm.Cond.code (zMy zr_X11_told) (zMb zr_X11_told) (zMl zr_X11_told) (zMr zr_X11_told) ∈ zgt ∧ Jvm.Cond.initialized (zMy zr_X11_told).cls ∈ zgt ∧ plainFor (zMy zr_X11_told) = true := ⟨zg_of (List.mem_of_getElem? (i := 1117) (by rfl)) rfl, zg_of (List.mem_of_getElem? (i := 98) (by rfl)) rfl, by decide +kernel⟩
set_option maxRecDepth 100000 in
theorem zk_X11_goes : zca zrecs zr_X11_goes 0 zo_X11_goes zq_X11_goes = true := by decide +kernel
theorem zd_X11_goes : zdown 135 zo_X11_goes = true := by decide +kernel
set_option maxRecDepth 100000 in
theorem zc_X11_goes : Jvm.Cond.code (zMy zr_X11_goes) (zMb zr_X11_goes) (zMl zr_X11_goes) (zMr zr_X11_goes) ∈ zgt ∧ Jvm.Cond.initialized (zMy zr_X11_goes).cls ∈ zgt ∧ plainFor (zMy zr_X11_goes) = true := ⟨zg_of (List.mem_of_getElem? (i := 1121) (by rfl)) rfl, zg_of (List.mem_of_getElem? (i := 98) (by rfl)) rfl, by decide +kernel⟩
set_option maxRecDepth 100000 in
theorem zk_X11_writes : zca zrecs zr_X11_writes 0 zo_X11_writes zq_X11_writes = true := by decide +kernel
theorem zd_X11_writes : zdown 136 zo_X11_writes = true := by decide +kernel
set_option maxRecDepth 100000 in
theorem zc_X11_writes : Jvm.Cond.code (zMy zr_X11_writes) (zMb zr_X11_writes) (zMl zr_X11_writes) (zMr zr_X11_writes) ∈ zgt ∧ Jvm.Cond.initialized (zMy zr_X11_writes).cls ∈ zgt ∧ plainFor (zMy zr_X11_writes) = true := ⟨zg_of (List.mem_of_getElem? (i := 1126) (by rfl)) rfl, zg_of (List.mem_of_getElem? (i := 98) (by rfl)) rfl, by decide +kernel⟩
set_option maxRecDepth 100000 in
theorem zk_X11_act : zca zrecs zr_X11_act 0 zo_X11_act zq_X11_act = true := by decide +kernel
theorem zd_X11_act : zdown 137 zo_X11_act = true := by decide +kernel
set_option maxRecDepth 100000 in
theorem zc_X11_act : Jvm.Cond.code (zMy zr_X11_act) (zMb zr_X11_act) (zMl zr_X11_act) (zMr zr_X11_act) ∈ zgt ∧ Jvm.Cond.initialized (zMy zr_X11_act).cls ∈ zgt ∧ plainFor (zMy zr_X11_act) = true := ⟨zg_of (List.mem_of_getElem? (i := 1131) (by rfl)) rfl, zg_of (List.mem_of_getElem? (i := 98) (by rfl)) rfl, by decide +kernel⟩
set_option maxRecDepth 100000 in
theorem zk_X11_acted : zca zrecs zr_X11_acted 0 zo_X11_acted zq_X11_acted = true := by decide +kernel
theorem zd_X11_acted : zdown 138 zo_X11_acted = true := by decide +kernel
set_option maxRecDepth 100000 in
theorem zc_X11_acted : Jvm.Cond.code (zMy zr_X11_acted) (zMb zr_X11_acted) (zMl zr_X11_acted) (zMr zr_X11_acted) ∈ zgt ∧ Jvm.Cond.initialized (zMy zr_X11_acted).cls ∈ zgt ∧ plainFor (zMy zr_X11_acted) = true := ⟨zg_of (List.mem_of_getElem? (i := 1147) (by rfl)) rfl, zg_of (List.mem_of_getElem? (i := 98) (by rfl)) rfl, by decide +kernel⟩
set_option maxRecDepth 100000 in
theorem zk_X12_init : zca zrecs zr_X12_init 0 zo_X12_init zq_X12_init = true := by decide +kernel
theorem zd_X12_init : zdown 139 zo_X12_init = true := by decide +kernel
set_option maxRecDepth 100000 in
theorem zc_X12_init : Jvm.Cond.code (zMy zr_X12_init) (zMb zr_X12_init) (zMl zr_X12_init) (zMr zr_X12_init) ∈ zgt ∧ Jvm.Cond.initialized (zMy zr_X12_init).cls ∈ zgt ∧ plainFor (zMy zr_X12_init) = true := ⟨zg_of (List.mem_of_getElem? (i := 1152) (by rfl)) rfl, zg_of (List.mem_of_getElem? (i := 111) (by rfl)) rfl, by decide +kernel⟩
set_option maxRecDepth 100000 in
theorem zk_X12_isMachine : zca zrecs zr_X12_isMachine 0 zo_X12_isMachine zq_X12_isMachine = true := by decide +kernel
theorem zd_X12_isMachine : zdown 140 zo_X12_isMachine = true := by decide +kernel
set_option maxRecDepth 100000 in
theorem zc_X12_isMachine : Jvm.Cond.code (zMy zr_X12_isMachine) (zMb zr_X12_isMachine) (zMl zr_X12_isMachine) (zMr zr_X12_isMachine) ∈ zgt ∧ Jvm.Cond.initialized (zMy zr_X12_isMachine).cls ∈ zgt ∧ plainFor (zMy zr_X12_isMachine) = true := ⟨zg_of (List.mem_of_getElem? (i := 1448) (by rfl)) rfl, zg_of (List.mem_of_getElem? (i := 111) (by rfl)) rfl, by decide +kernel⟩
set_option maxRecDepth 100000 in
theorem zk_X12_isState : zca zrecs zr_X12_isState 0 zo_X12_isState zq_X12_isState = true := by decide +kernel
theorem zd_X12_isState : zdown 141 zo_X12_isState = true := by decide +kernel
set_option maxRecDepth 100000 in
theorem zc_X12_isState : Jvm.Cond.code (zMy zr_X12_isState) (zMb zr_X12_isState) (zMl zr_X12_isState) (zMr zr_X12_isState) ∈ zgt ∧ Jvm.Cond.initialized (zMy zr_X12_isState).cls ∈ zgt ∧ plainFor (zMy zr_X12_isState) = true := ⟨zg_of (List.mem_of_getElem? (i := 1456) (by rfl)) rfl, zg_of (List.mem_of_getElem? (i := 111) (by rfl)) rfl, by decide +kernel⟩
set_option maxRecDepth 100000 in
theorem zk_X12_letters : zca zrecs zr_X12_letters 0 zo_X12_letters zq_X12_letters = true := by decide +kernel
theorem zd_X12_letters : zdown 142 zo_X12_letters = true := by decide +kernel
set_option maxRecDepth 100000 in
theorem zc_X12_letters : Jvm.Cond.code (zMy zr_X12_letters) (zMb zr_X12_letters) (zMl zr_X12_letters) (zMr zr_X12_letters) ∈ zgt ∧ Jvm.Cond.initialized (zMy zr_X12_letters).cls ∈ zgt ∧ plainFor (zMy zr_X12_letters) = true := ⟨zg_of (List.mem_of_getElem? (i := 1466) (by rfl)) rfl, zg_of (List.mem_of_getElem? (i := 111) (by rfl)) rfl, by decide +kernel⟩
set_option maxRecDepth 100000 in
theorem zk_X12_letter : zca zrecs zr_X12_letter 0 zo_X12_letter zq_X12_letter = true := by decide +kernel
theorem zd_X12_letter : zdown 143 zo_X12_letter = true := by decide +kernel
set_option maxRecDepth 100000 in
theorem zc_X12_letter : Jvm.Cond.code (zMy zr_X12_letter) (zMb zr_X12_letter) (zMl zr_X12_letter) (zMr zr_X12_letter) ∈ zgt ∧ Jvm.Cond.initialized (zMy zr_X12_letter).cls ∈ zgt ∧ plainFor (zMy zr_X12_letter) = true := ⟨zg_of (List.mem_of_getElem? (i := 1506) (by rfl)) rfl, zg_of (List.mem_of_getElem? (i := 111) (by rfl)) rfl, by decide +kernel⟩
set_option maxRecDepth 100000 in
theorem zk_X12_isWritten : zca zrecs zr_X12_isWritten 0 zo_X12_isWritten zq_X12_isWritten = true := by decide +kernel
theorem zd_X12_isWritten : zdown 144 zo_X12_isWritten = true := by decide +kernel
set_option maxRecDepth 100000 in
theorem zc_X12_isWritten : Jvm.Cond.code (zMy zr_X12_isWritten) (zMb zr_X12_isWritten) (zMl zr_X12_isWritten) (zMr zr_X12_isWritten) ∈ zgt ∧ Jvm.Cond.initialized (zMy zr_X12_isWritten).cls ∈ zgt ∧ plainFor (zMy zr_X12_isWritten) = true := ⟨zg_of (List.mem_of_getElem? (i := 1463) (by rfl)) rfl, zg_of (List.mem_of_getElem? (i := 111) (by rfl)) rfl, by decide +kernel⟩
set_option maxRecDepth 100000 in
theorem zk_X12_machine : zca zrecs zr_X12_machine 0 zo_X12_machine zq_X12_machine = true := by decide +kernel
theorem zd_X12_machine : zdown 145 zo_X12_machine = true := by decide +kernel
set_option maxRecDepth 100000 in
theorem zc_X12_machine : Jvm.Cond.code (zMy zr_X12_machine) (zMb zr_X12_machine) (zMl zr_X12_machine) (zMr zr_X12_machine) ∈ zgt ∧ Jvm.Cond.initialized (zMy zr_X12_machine).cls ∈ zgt ∧ plainFor (zMy zr_X12_machine) = true := ⟨zg_of (List.mem_of_getElem? (i := 1445) (by rfl)) rfl, zg_of (List.mem_of_getElem? (i := 111) (by rfl)) rfl, by decide +kernel⟩
set_option maxRecDepth 100000 in
theorem zk_X12_begins : zca zrecs zr_X12_begins 0 zo_X12_begins zq_X12_begins = true := by decide +kernel
theorem zd_X12_begins : zdown 146 zo_X12_begins = true := by decide +kernel
set_option maxRecDepth 100000 in
theorem zc_X12_begins : Jvm.Cond.code (zMy zr_X12_begins) (zMb zr_X12_begins) (zMl zr_X12_begins) (zMr zr_X12_begins) ∈ zgt ∧ Jvm.Cond.initialized (zMy zr_X12_begins).cls ∈ zgt ∧ plainFor (zMy zr_X12_begins) = true := ⟨zg_of (List.mem_of_getElem? (i := 1452) (by rfl)) rfl, zg_of (List.mem_of_getElem? (i := 111) (by rfl)) rfl, by decide +kernel⟩
set_option maxRecDepth 100000 in
theorem zk_X12_ends : zca zrecs zr_X12_ends 0 zo_X12_ends zq_X12_ends = true := by decide +kernel
theorem zd_X12_ends : zdown 147 zo_X12_ends = true := by decide +kernel
set_option maxRecDepth 100000 in
theorem zc_X12_ends : Jvm.Cond.code (zMy zr_X12_ends) (zMb zr_X12_ends) (zMl zr_X12_ends) (zMr zr_X12_ends) ∈ zgt ∧ Jvm.Cond.initialized (zMy zr_X12_ends).cls ∈ zgt ∧ plainFor (zMy zr_X12_ends) = true := ⟨zg_of (List.mem_of_getElem? (i := 1460) (by rfl)) rfl, zg_of (List.mem_of_getElem? (i := 111) (by rfl)) rfl, by decide +kernel⟩
set_option maxRecDepth 100000 in
theorem zk_X12_comes : zca zrecs zr_X12_comes 0 zo_X12_comes zq_X12_comes = true := by decide +kernel
theorem zd_X12_comes : zdown 148 zo_X12_comes = true := by decide +kernel
set_option maxRecDepth 100000 in
theorem zc_X12_comes : Jvm.Cond.code (zMy zr_X12_comes) (zMb zr_X12_comes) (zMl zr_X12_comes) (zMr zr_X12_comes) ∈ zgt ∧ Jvm.Cond.initialized (zMy zr_X12_comes).cls ∈ zgt ∧ plainFor (zMy zr_X12_comes) = true := ⟨zg_of (List.mem_of_getElem? (i := 1474) (by rfl)) rfl, zg_of (List.mem_of_getElem? (i := 111) (by rfl)) rfl, by decide +kernel⟩
set_option maxRecDepth 100000 in
theorem zk_X12_arc : zca zrecs zr_X12_arc 0 zo_X12_arc zq_X12_arc = true := by decide +kernel
theorem zd_X12_arc : zdown 149 zo_X12_arc = true := by decide +kernel
set_option maxRecDepth 100000 in
theorem zc_X12_arc : Jvm.Cond.code (zMy zr_X12_arc) (zMb zr_X12_arc) (zMl zr_X12_arc) (zMr zr_X12_arc) ∈ zgt ∧ Jvm.Cond.initialized (zMy zr_X12_arc).cls ∈ zgt ∧ plainFor (zMy zr_X12_arc) = true := ⟨zg_of (List.mem_of_getElem? (i := 1470) (by rfl)) rfl, zg_of (List.mem_of_getElem? (i := 111) (by rfl)) rfl, by decide +kernel⟩
set_option maxRecDepth 100000 in
theorem zk_X12_copy : zca zrecs zr_X12_copy 0 zo_X12_copy zq_X12_copy = true := by decide +kernel
theorem zd_X12_copy : zdown 150 zo_X12_copy = true := by decide +kernel
set_option maxRecDepth 100000 in
theorem zc_X12_copy : Jvm.Cond.code (zMy zr_X12_copy) (zMb zr_X12_copy) (zMl zr_X12_copy) (zMr zr_X12_copy) ∈ zgt ∧ Jvm.Cond.initialized (zMy zr_X12_copy).cls ∈ zgt ∧ plainFor (zMy zr_X12_copy) = true := ⟨zg_of (List.mem_of_getElem? (i := 1478) (by rfl)) rfl, zg_of (List.mem_of_getElem? (i := 111) (by rfl)) rfl, by decide +kernel⟩
set_option maxRecDepth 100000 in
theorem zk_X12_uses : zca zrecs zr_X12_uses 0 zo_X12_uses zq_X12_uses = true := by decide +kernel
theorem zd_X12_uses : zdown 151 zo_X12_uses = true := by decide +kernel
set_option maxRecDepth 100000 in
theorem zc_X12_uses : Jvm.Cond.code (zMy zr_X12_uses) (zMb zr_X12_uses) (zMl zr_X12_uses) (zMr zr_X12_uses) ∈ zgt ∧ Jvm.Cond.initialized (zMy zr_X12_uses).cls ∈ zgt ∧ plainFor (zMy zr_X12_uses) = true := ⟨zg_of (List.mem_of_getElem? (i := 1487) (by rfl)) rfl, zg_of (List.mem_of_getElem? (i := 111) (by rfl)) rfl, by decide +kernel⟩
set_option maxRecDepth 100000 in
theorem zk_X12_useful : zca zrecs zr_X12_useful 0 zo_X12_useful zq_X12_useful = true := by decide +kernel
theorem zd_X12_useful : zdown 152 zo_X12_useful = true := by decide +kernel
set_option maxRecDepth 100000 in
theorem zc_X12_useful : Jvm.Cond.code (zMy zr_X12_useful) (zMb zr_X12_useful) (zMl zr_X12_useful) (zMr zr_X12_useful) ∈ zgt ∧ Jvm.Cond.initialized (zMy zr_X12_useful).cls ∈ zgt ∧ plainFor (zMy zr_X12_useful) = true := ⟨zg_of (List.mem_of_getElem? (i := 1483) (by rfl)) rfl, zg_of (List.mem_of_getElem? (i := 111) (by rfl)) rfl, by decide +kernel⟩
set_option maxRecDepth 100000 in
theorem zk_X12_size : zca zrecs zr_X12_size 0 zo_X12_size zq_X12_size = true := by decide +kernel
theorem zd_X12_size : zdown 153 zo_X12_size = true := by decide +kernel
set_option maxRecDepth 100000 in
theorem zc_X12_size : Jvm.Cond.code (zMy zr_X12_size) (zMb zr_X12_size) (zMl zr_X12_size) (zMr zr_X12_size) ∈ zgt ∧ Jvm.Cond.initialized (zMy zr_X12_size).cls ∈ zgt ∧ plainFor (zMy zr_X12_size) = true := ⟨zg_of (List.mem_of_getElem? (i := 1491) (by rfl)) rfl, zg_of (List.mem_of_getElem? (i := 111) (by rfl)) rfl, by decide +kernel⟩
set_option maxRecDepth 100000 in
theorem zk_X12_later : zca zrecs zr_X12_later 0 zo_X12_later zq_X12_later = true := by decide +kernel
theorem zd_X12_later : zdown 154 zo_X12_later = true := by decide +kernel
set_option maxRecDepth 100000 in
theorem zc_X12_later : Jvm.Cond.code (zMy zr_X12_later) (zMb zr_X12_later) (zMl zr_X12_later) (zMr zr_X12_later) ∈ zgt ∧ Jvm.Cond.initialized (zMy zr_X12_later).cls ∈ zgt ∧ plainFor (zMy zr_X12_later) = true := ⟨zg_of (List.mem_of_getElem? (i := 1499) (by rfl)) rfl, zg_of (List.mem_of_getElem? (i := 111) (by rfl)) rfl, by decide +kernel⟩
set_option maxRecDepth 100000 in
theorem zk_X12_nowLater : zca zrecs zr_X12_nowLater 0 zo_X12_nowLater zq_X12_nowLater = true := by decide +kernel
theorem zd_X12_nowLater : zdown 155 zo_X12_nowLater = true := by decide +kernel
set_option maxRecDepth 100000 in
theorem zc_X12_nowLater : Jvm.Cond.code (zMy zr_X12_nowLater) (zMb zr_X12_nowLater) (zMl zr_X12_nowLater) (zMr zr_X12_nowLater) ∈ zgt ∧ Jvm.Cond.initialized (zMy zr_X12_nowLater).cls ∈ zgt ∧ plainFor (zMy zr_X12_nowLater) = true := ⟨zg_of (List.mem_of_getElem? (i := 1503) (by rfl)) rfl, zg_of (List.mem_of_getElem? (i := 111) (by rfl)) rfl, by decide +kernel⟩
set_option maxRecDepth 100000 in
theorem zk_X12_joined : zca zrecs zr_X12_joined 0 zo_X12_joined zq_X12_joined = true := by decide +kernel
theorem zd_X12_joined : zdown 156 zo_X12_joined = true := by decide +kernel
set_option maxRecDepth 100000 in
theorem zc_X12_joined : Jvm.Cond.code (zMy zr_X12_joined) (zMb zr_X12_joined) (zMl zr_X12_joined) (zMr zr_X12_joined) ∈ zgt ∧ Jvm.Cond.initialized (zMy zr_X12_joined).cls ∈ zgt ∧ plainFor (zMy zr_X12_joined) = true := ⟨zg_of (List.mem_of_getElem? (i := 1510) (by rfl)) rfl, zg_of (List.mem_of_getElem? (i := 111) (by rfl)) rfl, by decide +kernel⟩
set_option maxRecDepth 100000 in
theorem zk_X12_isLess : zca zrecs zr_X12_isLess 0 zo_X12_isLess zq_X12_isLess = true := by decide +kernel
theorem zd_X12_isLess : zdown 157 zo_X12_isLess = true := by decide +kernel
set_option maxRecDepth 100000 in
theorem zc_X12_isLess : Jvm.Cond.code (zMy zr_X12_isLess) (zMb zr_X12_isLess) (zMl zr_X12_isLess) (zMr zr_X12_isLess) ∈ zgt ∧ Jvm.Cond.initialized (zMy zr_X12_isLess).cls ∈ zgt ∧ plainFor (zMy zr_X12_isLess) = true := ⟨zg_of (List.mem_of_getElem? (i := 1518) (by rfl)) rfl, zg_of (List.mem_of_getElem? (i := 111) (by rfl)) rfl, by decide +kernel⟩
set_option maxRecDepth 100000 in
theorem zk_X12_sorts : zca zrecs zr_X12_sorts 0 zo_X12_sorts zq_X12_sorts = true := by decide +kernel
theorem zd_X12_sorts : zdown 158 zo_X12_sorts = true := by decide +kernel
set_option maxRecDepth 100000 in
theorem zc_X12_sorts : Jvm.Cond.code (zMy zr_X12_sorts) (zMb zr_X12_sorts) (zMl zr_X12_sorts) (zMr zr_X12_sorts) ∈ zgt ∧ Jvm.Cond.initialized (zMy zr_X12_sorts).cls ∈ zgt ∧ plainFor (zMy zr_X12_sorts) = true := ⟨zg_of (List.mem_of_getElem? (i := 1514) (by rfl)) rfl, zg_of (List.mem_of_getElem? (i := 111) (by rfl)) rfl, by decide +kernel⟩
set_option maxRecDepth 100000 in
theorem zk_X12_apply : zca zrecs zr_X12_apply 0 zo_X12_apply zq_X12_apply = true := by decide +kernel
theorem zd_X12_apply : zdown 159 zo_X12_apply = true := by decide +kernel
set_option maxRecDepth 100000 in
theorem zc_X12_apply : Jvm.Cond.code (zMy zr_X12_apply) (zMb zr_X12_apply) (zMl zr_X12_apply) (zMr zr_X12_apply) ∈ zgt ∧ Jvm.Cond.initialized (zMy zr_X12_apply).cls ∈ zgt ∧ plainFor (zMy zr_X12_apply) = true := ⟨zg_of (List.mem_of_getElem? (i := 1495) (by rfl)) rfl, zg_of (List.mem_of_getElem? (i := 111) (by rfl)) rfl, by decide +kernel⟩
