set_option maxRecDepth 100000 in
theorem zk_X12_fulls : zca zrecs zr_X12_fulls 0 zo_X12_fulls zq_X12_fulls = true := by decide +kernel
theorem zd_X12_fulls : zdown 200 zo_X12_fulls = true := by decide +kernel
set_option maxRecDepth 100000 in
theorem zc_X12_fulls : Jvm.Cond.code (zMy zr_X12_fulls) (zMb zr_X12_fulls) (zMl zr_X12_fulls) (zMr zr_X12_fulls) ∈ zgt ∧ Jvm.Cond.initialized (zMy zr_X12_fulls).cls ∈ zgt ∧ plainFor (zMy zr_X12_fulls) = true := ⟨zg_of (List.mem_of_getElem? (i := 1687) (by rfl)) rfl, zg_of (List.mem_of_getElem? (i := 111) (by rfl)) rfl, by decide +kernel⟩
set_option maxRecDepth 100000 in
theorem zk_X12_isAlike : zca zrecs zr_X12_isAlike 0 zo_X12_isAlike zq_X12_isAlike = true := by decide +kernel
theorem zd_X12_isAlike : zdown 201 zo_X12_isAlike = true := by decide +kernel
set_option maxRecDepth 100000 in
theorem zc_X12_isAlike : Jvm.Cond.code (zMy zr_X12_isAlike) (zMb zr_X12_isAlike) (zMl zr_X12_isAlike) (zMr zr_X12_isAlike) ∈ zgt ∧ Jvm.Cond.initialized (zMy zr_X12_isAlike).cls ∈ zgt ∧ plainFor (zMy zr_X12_isAlike) = true := ⟨zg_of (List.mem_of_getElem? (i := 1695) (by rfl)) rfl, zg_of (List.mem_of_getElem? (i := 111) (by rfl)) rfl, by decide +kernel⟩
set_option maxRecDepth 100000 in
theorem zk_X12_least : zca zrecs zr_X12_least 0 zo_X12_least zq_X12_least = true := by decide +kernel
theorem zd_X12_least : zdown 202 zo_X12_least = true := by decide +kernel
set_option maxRecDepth 100000 in
theorem zc_X12_least : Jvm.Cond.code (zMy zr_X12_least) (zMb zr_X12_least) (zMl zr_X12_least) (zMr zr_X12_least) ∈ zgt ∧ Jvm.Cond.initialized (zMy zr_X12_least).cls ∈ zgt ∧ plainFor (zMy zr_X12_least) = true := ⟨zg_of (List.mem_of_getElem? (i := 1691) (by rfl)) rfl, zg_of (List.mem_of_getElem? (i := 111) (by rfl)) rfl, by decide +kernel⟩
set_option maxRecDepth 100000 in
theorem zk_X12_sequential : zca zrecs zr_X12_sequential 0 zo_X12_sequential zq_X12_sequential = true := by decide +kernel
theorem zd_X12_sequential : zdown 203 zo_X12_sequential = true := by decide +kernel
set_option maxRecDepth 100000 in
theorem zc_X12_sequential : Jvm.Cond.code (zMy zr_X12_sequential) (zMb zr_X12_sequential) (zMl zr_X12_sequential) (zMr zr_X12_sequential) ∈ zgt ∧ Jvm.Cond.initialized (zMy zr_X12_sequential).cls ∈ zgt ∧ plainFor (zMy zr_X12_sequential) = true := ⟨zg_of (List.mem_of_getElem? (i := 1639) (by rfl)) rfl, zg_of (List.mem_of_getElem? (i := 111) (by rfl)) rfl, by decide +kernel⟩
set_option maxRecDepth 100000 in
theorem zk_X12_told : zca zrecs zr_X12_told 0 zo_X12_told zq_X12_told = true := by decide +kernel
theorem zd_X12_told : zdown 204 zo_X12_told = true := by decide +kernel
set_option maxRecDepth 100000 in
theorem zc_X12_told : Jvm.Cond.code (zMy zr_X12_told) (zMb zr_X12_told) (zMl zr_X12_told) (zMr zr_X12_told) ∈ zgt ∧ Jvm.Cond.initialized (zMy zr_X12_told).cls ∈ zgt ∧ plainFor (zMy zr_X12_told) = true := ⟨zg_of (List.mem_of_getElem? (i := 1699) (by rfl)) rfl, zg_of (List.mem_of_getElem? (i := 111) (by rfl)) rfl, by decide +kernel⟩
set_option maxRecDepth 100000 in
theorem zk_X12_isLeast : zca zrecs zr_X12_isLeast 0 zo_X12_isLeast zq_X12_isLeast = true := by decide +kernel
theorem zd_X12_isLeast : zdown 205 zo_X12_isLeast = true := by decide +kernel
set_option maxRecDepth 100000 in
theorem zc_X12_isLeast : Jvm.Cond.code (zMy zr_X12_isLeast) (zMb zr_X12_isLeast) (zMl zr_X12_isLeast) (zMr zr_X12_isLeast) ∈ zgt ∧ Jvm.Cond.initialized (zMy zr_X12_isLeast).cls ∈ zgt ∧ plainFor (zMy zr_X12_isLeast) = true := ⟨zg_of (List.mem_of_getElem? (i := 1707) (by rfl)) rfl, zg_of (List.mem_of_getElem? (i := 111) (by rfl)) rfl, by decide +kernel⟩
set_option maxRecDepth 100000 in
theorem zk_X12_goes : zca zrecs zr_X12_goes 0 zo_X12_goes zq_X12_goes = true := by decide +kernel
theorem zd_X12_goes : zdown 206 zo_X12_goes = true := by decide +kernel
set_option maxRecDepth 100000 in
theorem zc_X12_goes : Jvm.Cond.code (zMy zr_X12_goes) (zMb zr_X12_goes) (zMl zr_X12_goes) (zMr zr_X12_goes) ∈ zgt ∧ Jvm.Cond.initialized (zMy zr_X12_goes).cls ∈ zgt ∧ plainFor (zMy zr_X12_goes) = true := ⟨zg_of (List.mem_of_getElem? (i := 1703) (by rfl)) rfl, zg_of (List.mem_of_getElem? (i := 111) (by rfl)) rfl, by decide +kernel⟩
set_option maxRecDepth 100000 in
theorem zk_X12_writes : zca zrecs zr_X12_writes 0 zo_X12_writes zq_X12_writes = true := by decide +kernel
theorem zd_X12_writes : zdown 207 zo_X12_writes = true := by decide +kernel
set_option maxRecDepth 100000 in
theorem zc_X12_writes : Jvm.Cond.code (zMy zr_X12_writes) (zMb zr_X12_writes) (zMl zr_X12_writes) (zMr zr_X12_writes) ∈ zgt ∧ Jvm.Cond.initialized (zMy zr_X12_writes).cls ∈ zgt ∧ plainFor (zMy zr_X12_writes) = true := ⟨zg_of (List.mem_of_getElem? (i := 1711) (by rfl)) rfl, zg_of (List.mem_of_getElem? (i := 111) (by rfl)) rfl, by decide +kernel⟩
set_option maxRecDepth 100000 in
theorem zk_X12_behindAct : zca zrecs zr_X12_behindAct 0 zo_X12_behindAct zq_X12_behindAct = true := by decide +kernel
theorem zd_X12_behindAct : zdown 208 zo_X12_behindAct = true := by decide +kernel
set_option maxRecDepth 100000 in
theorem zc_X12_behindAct : Jvm.Cond.code (zMy zr_X12_behindAct) (zMb zr_X12_behindAct) (zMl zr_X12_behindAct) (zMr zr_X12_behindAct) ∈ zgt ∧ Jvm.Cond.initialized (zMy zr_X12_behindAct).cls ∈ zgt ∧ plainFor (zMy zr_X12_behindAct) = true := ⟨zg_of (List.mem_of_getElem? (i := 1719) (by rfl)) rfl, zg_of (List.mem_of_getElem? (i := 111) (by rfl)) rfl, by decide +kernel⟩
set_option maxRecDepth 100000 in
theorem zk_X12_act : zca zrecs zr_X12_act 0 zo_X12_act zq_X12_act = true := by decide +kernel
theorem zd_X12_act : zdown 209 zo_X12_act = true := by decide +kernel
set_option maxRecDepth 100000 in
theorem zc_X12_act : Jvm.Cond.code (zMy zr_X12_act) (zMb zr_X12_act) (zMl zr_X12_act) (zMr zr_X12_act) ∈ zgt ∧ Jvm.Cond.initialized (zMy zr_X12_act).cls ∈ zgt ∧ plainFor (zMy zr_X12_act) = true := ⟨zg_of (List.mem_of_getElem? (i := 1715) (by rfl)) rfl, zg_of (List.mem_of_getElem? (i := 111) (by rfl)) rfl, by decide +kernel⟩
set_option maxRecDepth 100000 in
theorem zk_X12_acted : zca zrecs zr_X12_acted 0 zo_X12_acted zq_X12_acted = true := by decide +kernel
theorem zd_X12_acted : zdown 210 zo_X12_acted = true := by decide +kernel
set_option maxRecDepth 100000 in
theorem zc_X12_acted : Jvm.Cond.code (zMy zr_X12_acted) (zMb zr_X12_acted) (zMl zr_X12_acted) (zMr zr_X12_acted) ∈ zgt ∧ Jvm.Cond.initialized (zMy zr_X12_acted).cls ∈ zgt ∧ plainFor (zMy zr_X12_acted) = true := ⟨zg_of (List.mem_of_getElem? (i := 1723) (by rfl)) rfl, zg_of (List.mem_of_getElem? (i := 111) (by rfl)) rfl, by decide +kernel⟩
set_option maxRecDepth 100000 in
theorem zk_X12_wordOfLeast : zca zrecs zr_X12_wordOfLeast 0 zo_X12_wordOfLeast zq_X12_wordOfLeast = true := by decide +kernel
theorem zd_X12_wordOfLeast : zdown 211 zo_X12_wordOfLeast = true := by decide +kernel
set_option maxRecDepth 100000 in
theorem zc_X12_wordOfLeast : Jvm.Cond.code (zMy zr_X12_wordOfLeast) (zMb zr_X12_wordOfLeast) (zMl zr_X12_wordOfLeast) (zMr zr_X12_wordOfLeast) ∈ zgt ∧ Jvm.Cond.initialized (zMy zr_X12_wordOfLeast).cls ∈ zgt ∧ plainFor (zMy zr_X12_wordOfLeast) = true := ⟨zg_of (List.mem_of_getElem? (i := 1731) (by rfl)) rfl, zg_of (List.mem_of_getElem? (i := 111) (by rfl)) rfl, by decide +kernel⟩
set_option maxRecDepth 100000 in
theorem zk_X12_take : zca zrecs zr_X12_take 0 zo_X12_take zq_X12_take = true := by decide +kernel
theorem zd_X12_take : zdown 212 zo_X12_take = true := by decide +kernel
set_option maxRecDepth 100000 in
theorem zc_X12_take : Jvm.Cond.code (zMy zr_X12_take) (zMb zr_X12_take) (zMl zr_X12_take) (zMr zr_X12_take) ∈ zgt ∧ Jvm.Cond.initialized (zMy zr_X12_take).cls ∈ zgt ∧ plainFor (zMy zr_X12_take) = true := ⟨zg_of (List.mem_of_getElem? (i := 1727) (by rfl)) rfl, zg_of (List.mem_of_getElem? (i := 111) (by rfl)) rfl, by decide +kernel⟩
theorem zd_L_law : zdown 213 zo_L_law = true := by decide +kernel
