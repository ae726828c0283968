set_option maxRecDepth 100000 in
theorem zk_X12_output : zca zrecs zr_X12_output 0 zo_X12_output zq_X12_output = true := by decide +kernel
theorem zd_X12_output : zdown 160 zo_X12_output = true := by decide +kernel
set_option maxRecDepth 100000 in
theorem zc_X12_output : Jvm.Cond.code (zMy zr_X12_output) (zMb zr_X12_output) (zMl zr_X12_output) (zMr zr_X12_output) ∈ zgt ∧ Jvm.Cond.initialized (zMy zr_X12_output).cls ∈ zgt ∧ plainFor (zMy zr_X12_output) = true := ⟨zg_of (List.mem_of_getElem? (i := 1522) (by rfl)) rfl, zg_of (List.mem_of_getElem? (i := 111) (by rfl)) rfl, by decide +kernel⟩
set_option maxRecDepth 100000 in
theorem zk_X12_moves : zca zrecs zr_X12_moves 0 zo_X12_moves zq_X12_moves = true := by decide +kernel
theorem zd_X12_moves : zdown 161 zo_X12_moves = true := by decide +kernel
set_option maxRecDepth 100000 in
theorem zc_X12_moves : Jvm.Cond.code (zMy zr_X12_moves) (zMb zr_X12_moves) (zMl zr_X12_moves) (zMr zr_X12_moves) ∈ zgt ∧ Jvm.Cond.initialized (zMy zr_X12_moves).cls ∈ zgt ∧ plainFor (zMy zr_X12_moves) = true := ⟨zg_of (List.mem_of_getElem? (i := 1582) (by rfl)) rfl, zg_of (List.mem_of_getElem? (i := 111) (by rfl)) rfl, by decide +kernel⟩
set_option maxRecDepth 100000 in
theorem zk_X12_order : zca zrecs zr_X12_order 0 zo_X12_order zq_X12_order = true := by decide +kernel
theorem zd_X12_order : zdown 162 zo_X12_order = true := by decide +kernel
set_option maxRecDepth 100000 in
theorem zc_X12_order : Jvm.Cond.code (zMy zr_X12_order) (zMb zr_X12_order) (zMl zr_X12_order) (zMr zr_X12_order) ∈ zgt ∧ Jvm.Cond.initialized (zMy zr_X12_order).cls ∈ zgt ∧ plainFor (zMy zr_X12_order) = true := ⟨zg_of (List.mem_of_getElem? (i := 1578) (by rfl)) rfl, zg_of (List.mem_of_getElem? (i := 111) (by rfl)) rfl, by decide +kernel⟩
set_option maxRecDepth 100000 in
theorem zk_X12_offers : zca zrecs zr_X12_offers 0 zo_X12_offers zq_X12_offers = true := by decide +kernel
theorem zd_X12_offers : zdown 163 zo_X12_offers = true := by decide +kernel
set_option maxRecDepth 100000 in
theorem zc_X12_offers : Jvm.Cond.code (zMy zr_X12_offers) (zMb zr_X12_offers) (zMl zr_X12_offers) (zMr zr_X12_offers) ∈ zgt ∧ Jvm.Cond.initialized (zMy zr_X12_offers).cls ∈ zgt ∧ plainFor (zMy zr_X12_offers) = true := ⟨zg_of (List.mem_of_getElem? (i := 1574) (by rfl)) rfl, zg_of (List.mem_of_getElem? (i := 111) (by rfl)) rfl, by decide +kernel⟩
set_option maxRecDepth 100000 in
theorem zk_X12_behind : zca zrecs zr_X12_behind 0 zo_X12_behind zq_X12_behind = true := by decide +kernel
theorem zd_X12_behind : zdown 164 zo_X12_behind = true := by decide +kernel
set_option maxRecDepth 100000 in
theorem zc_X12_behind : Jvm.Cond.code (zMy zr_X12_behind) (zMb zr_X12_behind) (zMl zr_X12_behind) (zMr zr_X12_behind) ∈ zgt ∧ Jvm.Cond.initialized (zMy zr_X12_behind).cls ∈ zgt ∧ plainFor (zMy zr_X12_behind) = true := ⟨zg_of (List.mem_of_getElem? (i := 1590) (by rfl)) rfl, zg_of (List.mem_of_getElem? (i := 111) (by rfl)) rfl, by decide +kernel⟩
set_option maxRecDepth 100000 in
theorem zk_X12_turns : zca zrecs zr_X12_turns 0 zo_X12_turns zq_X12_turns = true := by decide +kernel
theorem zd_X12_turns : zdown 165 zo_X12_turns = true := by decide +kernel
set_option maxRecDepth 100000 in
theorem zc_X12_turns : Jvm.Cond.code (zMy zr_X12_turns) (zMb zr_X12_turns) (zMl zr_X12_turns) (zMr zr_X12_turns) ∈ zgt ∧ Jvm.Cond.initialized (zMy zr_X12_turns).cls ∈ zgt ∧ plainFor (zMy zr_X12_turns) = true := ⟨zg_of (List.mem_of_getElem? (i := 1586) (by rfl)) rfl, zg_of (List.mem_of_getElem? (i := 111) (by rfl)) rfl, by decide +kernel⟩
set_option maxRecDepth 100000 in
theorem zk_X12_leasts : zca zrecs zr_X12_leasts 0 zo_X12_leasts zq_X12_leasts = true := by decide +kernel
theorem zd_X12_leasts : zdown 166 zo_X12_leasts = true := by decide +kernel
set_option maxRecDepth 100000 in
theorem zc_X12_leasts : Jvm.Cond.code (zMy zr_X12_leasts) (zMb zr_X12_leasts) (zMl zr_X12_leasts) (zMr zr_X12_leasts) ∈ zgt ∧ Jvm.Cond.initialized (zMy zr_X12_leasts).cls ∈ zgt ∧ plainFor (zMy zr_X12_leasts) = true := ⟨zg_of (List.mem_of_getElem? (i := 1570) (by rfl)) rfl, zg_of (List.mem_of_getElem? (i := 111) (by rfl)) rfl, by decide +kernel⟩
set_option maxRecDepth 100000 in
theorem zk_X12_keepsOutput : zca zrecs zr_X12_keepsOutput 0 zo_X12_keepsOutput zq_X12_keepsOutput = true := by decide +kernel
theorem zd_X12_keepsOutput : zdown 167 zo_X12_keepsOutput = true := by decide +kernel
set_option maxRecDepth 100000 in
theorem zc_X12_keepsOutput : Jvm.Cond.code (zMy zr_X12_keepsOutput) (zMb zr_X12_keepsOutput) (zMl zr_X12_keepsOutput) (zMr zr_X12_keepsOutput) ∈ zgt ∧ Jvm.Cond.initialized (zMy zr_X12_keepsOutput).cls ∈ zgt ∧ plainFor (zMy zr_X12_keepsOutput) = true := ⟨zg_of (List.mem_of_getElem? (i := 1594) (by rfl)) rfl, zg_of (List.mem_of_getElem? (i := 111) (by rfl)) rfl, by decide +kernel⟩
set_option maxRecDepth 100000 in
theorem zk_X12_witness : zca zrecs zr_X12_witness 0 zo_X12_witness zq_X12_witness = true := by decide +kernel
theorem zd_X12_witness : zdown 168 zo_X12_witness = true := by decide +kernel
set_option maxRecDepth 100000 in
theorem zc_X12_witness : Jvm.Cond.code (zMy zr_X12_witness) (zMb zr_X12_witness) (zMl zr_X12_witness) (zMr zr_X12_witness) ∈ zgt ∧ Jvm.Cond.initialized (zMy zr_X12_witness).cls ∈ zgt ∧ plainFor (zMy zr_X12_witness) = true := ⟨zg_of (List.mem_of_getElem? (i := 1526) (by rfl)) rfl, zg_of (List.mem_of_getElem? (i := 111) (by rfl)) rfl, by decide +kernel⟩
set_option maxRecDepth 100000 in
theorem zk_X12_wrote : zca zrecs zr_X12_wrote 0 zo_X12_wrote zq_X12_wrote = true := by decide +kernel
theorem zd_X12_wrote : zdown 169 zo_X12_wrote = true := by decide +kernel
set_option maxRecDepth 100000 in
theorem zc_X12_wrote : Jvm.Cond.code (zMy zr_X12_wrote) (zMb zr_X12_wrote) (zMl zr_X12_wrote) (zMr zr_X12_wrote) ∈ zgt ∧ Jvm.Cond.initialized (zMy zr_X12_wrote).cls ∈ zgt ∧ plainFor (zMy zr_X12_wrote) = true := ⟨zg_of (List.mem_of_getElem? (i := 1530) (by rfl)) rfl, zg_of (List.mem_of_getElem? (i := 111) (by rfl)) rfl, by decide +kernel⟩
set_option maxRecDepth 100000 in
theorem zk_X12_meets : zca zrecs zr_X12_meets 0 zo_X12_meets zq_X12_meets = true := by decide +kernel
theorem zd_X12_meets : zdown 170 zo_X12_meets = true := by decide +kernel
set_option maxRecDepth 100000 in
theorem zc_X12_meets : Jvm.Cond.code (zMy zr_X12_meets) (zMb zr_X12_meets) (zMl zr_X12_meets) (zMr zr_X12_meets) ∈ zgt ∧ Jvm.Cond.initialized (zMy zr_X12_meets).cls ∈ zgt ∧ plainFor (zMy zr_X12_meets) = true := ⟨zg_of (List.mem_of_getElem? (i := 1542) (by rfl)) rfl, zg_of (List.mem_of_getElem? (i := 111) (by rfl)) rfl, by decide +kernel⟩
set_option maxRecDepth 100000 in
theorem zk_X12_rows : zca zrecs zr_X12_rows 0 zo_X12_rows zq_X12_rows = true := by decide +kernel
theorem zd_X12_rows : zdown 171 zo_X12_rows = true := by decide +kernel
set_option maxRecDepth 100000 in
theorem zc_X12_rows : Jvm.Cond.code (zMy zr_X12_rows) (zMb zr_X12_rows) (zMl zr_X12_rows) (zMr zr_X12_rows) ∈ zgt ∧ Jvm.Cond.initialized (zMy zr_X12_rows).cls ∈ zgt ∧ plainFor (zMy zr_X12_rows) = true := ⟨zg_of (List.mem_of_getElem? (i := 1546) (by rfl)) rfl, zg_of (List.mem_of_getElem? (i := 111) (by rfl)) rfl, by decide +kernel⟩
set_option maxRecDepth 100000 in
theorem zk_X12_config : zca zrecs zr_X12_config 0 zo_X12_config zq_X12_config = true := by decide +kernel
theorem zd_X12_config : zdown 172 zo_X12_config = true := by decide +kernel
set_option maxRecDepth 100000 in
theorem zc_X12_config : Jvm.Cond.code (zMy zr_X12_config) (zMb zr_X12_config) (zMl zr_X12_config) (zMr zr_X12_config) ∈ zgt ∧ Jvm.Cond.initialized (zMy zr_X12_config).cls ∈ zgt ∧ plainFor (zMy zr_X12_config) = true := ⟨zg_of (List.mem_of_getElem? (i := 1550) (by rfl)) rfl, zg_of (List.mem_of_getElem? (i := 111) (by rfl)) rfl, by decide +kernel⟩
set_option maxRecDepth 100000 in
theorem zk_X12_parts : zca zrecs zr_X12_parts 0 zo_X12_parts zq_X12_parts = true := by decide +kernel
theorem zd_X12_parts : zdown 173 zo_X12_parts = true := by decide +kernel
set_option maxRecDepth 100000 in
theorem zc_X12_parts : Jvm.Cond.code (zMy zr_X12_parts) (zMb zr_X12_parts) (zMl zr_X12_parts) (zMr zr_X12_parts) ∈ zgt ∧ Jvm.Cond.initialized (zMy zr_X12_parts).cls ∈ zgt ∧ plainFor (zMy zr_X12_parts) = true := ⟨zg_of (List.mem_of_getElem? (i := 1554) (by rfl)) rfl, zg_of (List.mem_of_getElem? (i := 111) (by rfl)) rfl, by decide +kernel⟩
set_option maxRecDepth 100000 in
theorem zk_X12_goOn : zca zrecs zr_X12_goOn 0 zo_X12_goOn zq_X12_goOn = true := by decide +kernel
theorem zd_X12_goOn : zdown 174 zo_X12_goOn = true := by decide +kernel
set_option maxRecDepth 100000 in
theorem zc_X12_goOn : Jvm.Cond.code (zMy zr_X12_goOn) (zMb zr_X12_goOn) (zMl zr_X12_goOn) (zMr zr_X12_goOn) ∈ zgt ∧ Jvm.Cond.initialized (zMy zr_X12_goOn).cls ∈ zgt ∧ plainFor (zMy zr_X12_goOn) = true := ⟨zg_of (List.mem_of_getElem? (i := 1558) (by rfl)) rfl, zg_of (List.mem_of_getElem? (i := 111) (by rfl)) rfl, by decide +kernel⟩
set_option maxRecDepth 100000 in
theorem zk_X12_unlike : zca zrecs zr_X12_unlike 0 zo_X12_unlike zq_X12_unlike = true := by decide +kernel
theorem zd_X12_unlike : zdown 175 zo_X12_unlike = true := by decide +kernel
set_option maxRecDepth 100000 in
theorem zc_X12_unlike : Jvm.Cond.code (zMy zr_X12_unlike) (zMb zr_X12_unlike) (zMl zr_X12_unlike) (zMr zr_X12_unlike) ∈ zgt ∧ Jvm.Cond.initialized (zMy zr_X12_unlike).cls ∈ zgt ∧ plainFor (zMy zr_X12_unlike) = true := ⟨zg_of (List.mem_of_getElem? (i := 1538) (by rfl)) rfl, zg_of (List.mem_of_getElem? (i := 111) (by rfl)) rfl, by decide +kernel⟩
set_option maxRecDepth 100000 in
theorem zk_X12_depth : zca zrecs zr_X12_depth 0 zo_X12_depth zq_X12_depth = true := by decide +kernel
theorem zd_X12_depth : zdown 176 zo_X12_depth = true := by decide +kernel
set_option maxRecDepth 100000 in
theorem zc_X12_depth : Jvm.Cond.code (zMy zr_X12_depth) (zMb zr_X12_depth) (zMl zr_X12_depth) (zMr zr_X12_depth) ∈ zgt ∧ Jvm.Cond.initialized (zMy zr_X12_depth).cls ∈ zgt ∧ plainFor (zMy zr_X12_depth) = true := ⟨zg_of (List.mem_of_getElem? (i := 1566) (by rfl)) rfl, zg_of (List.mem_of_getElem? (i := 111) (by rfl)) rfl, by decide +kernel⟩
set_option maxRecDepth 100000 in
theorem zk_X12_wordOf : zca zrecs zr_X12_wordOf 0 zo_X12_wordOf zq_X12_wordOf = true := by decide +kernel
theorem zd_X12_wordOf : zdown 177 zo_X12_wordOf = true := by decide +kernel
set_option maxRecDepth 100000 in
theorem zc_X12_wordOf : Jvm.Cond.code (zMy zr_X12_wordOf) (zMb zr_X12_wordOf) (zMl zr_X12_wordOf) (zMr zr_X12_wordOf) ∈ zgt ∧ Jvm.Cond.initialized (zMy zr_X12_wordOf).cls ∈ zgt ∧ plainFor (zMy zr_X12_wordOf) = true := ⟨zg_of (List.mem_of_getElem? (i := 1562) (by rfl)) rfl, zg_of (List.mem_of_getElem? (i := 111) (by rfl)) rfl, by decide +kernel⟩
set_option maxRecDepth 100000 in
theorem zk_X12_functional : zca zrecs zr_X12_functional 0 zo_X12_functional zq_X12_functional = true := by decide +kernel
theorem zd_X12_functional : zdown 178 zo_X12_functional = true := by decide +kernel
set_option maxRecDepth 100000 in
theorem zc_X12_functional : Jvm.Cond.code (zMy zr_X12_functional) (zMb zr_X12_functional) (zMl zr_X12_functional) (zMr zr_X12_functional) ∈ zgt ∧ Jvm.Cond.initialized (zMy zr_X12_functional).cls ∈ zgt ∧ plainFor (zMy zr_X12_functional) = true := ⟨zg_of (List.mem_of_getElem? (i := 1534) (by rfl)) rfl, zg_of (List.mem_of_getElem? (i := 111) (by rfl)) rfl, by decide +kernel⟩
set_option maxRecDepth 100000 in
theorem zk_X12_goesBy : zca zrecs zr_X12_goesBy 0 zo_X12_goesBy zq_X12_goesBy = true := by decide +kernel
theorem zd_X12_goesBy : zdown 179 zo_X12_goesBy = true := by decide +kernel
set_option maxRecDepth 100000 in
theorem zc_X12_goesBy : Jvm.Cond.code (zMy zr_X12_goesBy) (zMb zr_X12_goesBy) (zMl zr_X12_goesBy) (zMr zr_X12_goesBy) ∈ zgt ∧ Jvm.Cond.initialized (zMy zr_X12_goesBy).cls ∈ zgt ∧ plainFor (zMy zr_X12_goesBy) = true := ⟨zg_of (List.mem_of_getElem? (i := 1614) (by rfl)) rfl, zg_of (List.mem_of_getElem? (i := 111) (by rfl)) rfl, by decide +kernel⟩
set_option maxRecDepth 100000 in
theorem zk_X12_reads : zca zrecs zr_X12_reads 0 zo_X12_reads zq_X12_reads = true := by decide +kernel
theorem zd_X12_reads : zdown 180 zo_X12_reads = true := by decide +kernel
set_option maxRecDepth 100000 in
theorem zc_X12_reads : Jvm.Cond.code (zMy zr_X12_reads) (zMb zr_X12_reads) (zMl zr_X12_reads) (zMr zr_X12_reads) ∈ zgt ∧ Jvm.Cond.initialized (zMy zr_X12_reads).cls ∈ zgt ∧ plainFor (zMy zr_X12_reads) = true := ⟨zg_of (List.mem_of_getElem? (i := 1610) (by rfl)) rfl, zg_of (List.mem_of_getElem? (i := 111) (by rfl)) rfl, by decide +kernel⟩
set_option maxRecDepth 100000 in
theorem zk_X12_set : zca zrecs zr_X12_set 0 zo_X12_set zq_X12_set = true := by decide +kernel
theorem zd_X12_set : zdown 181 zo_X12_set = true := by decide +kernel
set_option maxRecDepth 100000 in
theorem zc_X12_set : Jvm.Cond.code (zMy zr_X12_set) (zMb zr_X12_set) (zMl zr_X12_set) (zMr zr_X12_set) ∈ zgt ∧ Jvm.Cond.initialized (zMy zr_X12_set).cls ∈ zgt ∧ plainFor (zMy zr_X12_set) = true := ⟨zg_of (List.mem_of_getElem? (i := 1606) (by rfl)) rfl, zg_of (List.mem_of_getElem? (i := 111) (by rfl)) rfl, by decide +kernel⟩
set_option maxRecDepth 100000 in
theorem zk_X12_alone : zca zrecs zr_X12_alone 0 zo_X12_alone zq_X12_alone = true := by decide +kernel
theorem zd_X12_alone : zdown 182 zo_X12_alone = true := by decide +kernel
set_option maxRecDepth 100000 in
theorem zc_X12_alone : Jvm.Cond.code (zMy zr_X12_alone) (zMb zr_X12_alone) (zMl zr_X12_alone) (zMr zr_X12_alone) ∈ zgt ∧ Jvm.Cond.initialized (zMy zr_X12_alone).cls ∈ zgt ∧ plainFor (zMy zr_X12_alone) = true := ⟨zg_of (List.mem_of_getElem? (i := 1602) (by rfl)) rfl, zg_of (List.mem_of_getElem? (i := 111) (by rfl)) rfl, by decide +kernel⟩
set_option maxRecDepth 100000 in
theorem zk_X12_deepOf : zca zrecs zr_X12_deepOf 0 zo_X12_deepOf zq_X12_deepOf = true := by decide +kernel
theorem zd_X12_deepOf : zdown 183 zo_X12_deepOf = true := by decide +kernel
set_option maxRecDepth 100000 in
theorem zc_X12_deepOf : Jvm.Cond.code (zMy zr_X12_deepOf) (zMb zr_X12_deepOf) (zMl zr_X12_deepOf) (zMr zr_X12_deepOf) ∈ zgt ∧ Jvm.Cond.initialized (zMy zr_X12_deepOf).cls ∈ zgt ∧ plainFor (zMy zr_X12_deepOf) = true := ⟨zg_of (List.mem_of_getElem? (i := 1622) (by rfl)) rfl, zg_of (List.mem_of_getElem? (i := 111) (by rfl)) rfl, by decide +kernel⟩
set_option maxRecDepth 100000 in
theorem zk_X12_wordOfSet : zca zrecs zr_X12_wordOfSet 0 zo_X12_wordOfSet zq_X12_wordOfSet = true := by decide +kernel
theorem zd_X12_wordOfSet : zdown 184 zo_X12_wordOfSet = true := by decide +kernel
set_option maxRecDepth 100000 in
theorem zc_X12_wordOfSet : Jvm.Cond.code (zMy zr_X12_wordOfSet) (zMb zr_X12_wordOfSet) (zMl zr_X12_wordOfSet) (zMr zr_X12_wordOfSet) ∈ zgt ∧ Jvm.Cond.initialized (zMy zr_X12_wordOfSet).cls ∈ zgt ∧ plainFor (zMy zr_X12_wordOfSet) = true := ⟨zg_of (List.mem_of_getElem? (i := 1618) (by rfl)) rfl, zg_of (List.mem_of_getElem? (i := 111) (by rfl)) rfl, by decide +kernel⟩
set_option maxRecDepth 100000 in
theorem zk_X12_bothWrote : zca zrecs zr_X12_bothWrote 0 zo_X12_bothWrote zq_X12_bothWrote = true := by decide +kernel
theorem zd_X12_bothWrote : zdown 185 zo_X12_bothWrote = true := by decide +kernel
set_option maxRecDepth 100000 in
theorem zc_X12_bothWrote : Jvm.Cond.code (zMy zr_X12_bothWrote) (zMb zr_X12_bothWrote) (zMl zr_X12_bothWrote) (zMr zr_X12_bothWrote) ∈ zgt ∧ Jvm.Cond.initialized (zMy zr_X12_bothWrote).cls ∈ zgt ∧ plainFor (zMy zr_X12_bothWrote) = true := ⟨zg_of (List.mem_of_getElem? (i := 1626) (by rfl)) rfl, zg_of (List.mem_of_getElem? (i := 111) (by rfl)) rfl, by decide +kernel⟩
set_option maxRecDepth 100000 in
theorem zk_X12_readers : zca zrecs zr_X12_readers 0 zo_X12_readers zq_X12_readers = true := by decide +kernel
theorem zd_X12_readers : zdown 186 zo_X12_readers = true := by decide +kernel
set_option maxRecDepth 100000 in
theorem zc_X12_readers : Jvm.Cond.code (zMy zr_X12_readers) (zMb zr_X12_readers) (zMl zr_X12_readers) (zMr zr_X12_readers) ∈ zgt ∧ Jvm.Cond.initialized (zMy zr_X12_readers).cls ∈ zgt ∧ plainFor (zMy zr_X12_readers) = true := ⟨zg_of (List.mem_of_getElem? (i := 1598) (by rfl)) rfl, zg_of (List.mem_of_getElem? (i := 111) (by rfl)) rfl, by decide +kernel⟩
set_option maxRecDepth 100000 in
theorem zk_X12_isAhead : zca zrecs zr_X12_isAhead 0 zo_X12_isAhead zq_X12_isAhead = true := by decide +kernel
theorem zd_X12_isAhead : zdown 187 zo_X12_isAhead = true := by decide +kernel
set_option maxRecDepth 100000 in
theorem zc_X12_isAhead : Jvm.Cond.code (zMy zr_X12_isAhead) (zMb zr_X12_isAhead) (zMl zr_X12_isAhead) (zMr zr_X12_isAhead) ∈ zgt ∧ Jvm.Cond.initialized (zMy zr_X12_isAhead).cls ∈ zgt ∧ plainFor (zMy zr_X12_isAhead) = true := ⟨zg_of (List.mem_of_getElem? (i := 1635) (by rfl)) rfl, zg_of (List.mem_of_getElem? (i := 111) (by rfl)) rfl, by decide +kernel⟩
set_option maxRecDepth 100000 in
theorem zk_X12_same : zca zrecs zr_X12_same 0 zo_X12_same zq_X12_same = true := by decide +kernel
theorem zd_X12_same : zdown 188 zo_X12_same = true := by decide +kernel
set_option maxRecDepth 100000 in
theorem zc_X12_same : Jvm.Cond.code (zMy zr_X12_same) (zMb zr_X12_same) (zMl zr_X12_same) (zMr zr_X12_same) ∈ zgt ∧ Jvm.Cond.initialized (zMy zr_X12_same).cls ∈ zgt ∧ plainFor (zMy zr_X12_same) = true := ⟨zg_of (List.mem_of_getElem? (i := 1630) (by rfl)) rfl, zg_of (List.mem_of_getElem? (i := 111) (by rfl)) rfl, by decide +kernel⟩
set_option maxRecDepth 100000 in
theorem zk_X12_twin : zca zrecs zr_X12_twin 0 zo_X12_twin zq_X12_twin = true := by decide +kernel
theorem zd_X12_twin : zdown 189 zo_X12_twin = true := by decide +kernel
set_option maxRecDepth 100000 in
theorem zc_X12_twin : Jvm.Cond.code (zMy zr_X12_twin) (zMb zr_X12_twin) (zMl zr_X12_twin) (zMr zr_X12_twin) ∈ zgt ∧ Jvm.Cond.initialized (zMy zr_X12_twin).cls ∈ zgt ∧ plainFor (zMy zr_X12_twin) = true := ⟨zg_of (List.mem_of_getElem? (i := 1651) (by rfl)) rfl, zg_of (List.mem_of_getElem? (i := 111) (by rfl)) rfl, by decide +kernel⟩
set_option maxRecDepth 100000 in
theorem zk_X12_twinRows : zca zrecs zr_X12_twinRows 0 zo_X12_twinRows zq_X12_twinRows = true := by decide +kernel
theorem zd_X12_twinRows : zdown 190 zo_X12_twinRows = true := by decide +kernel
set_option maxRecDepth 100000 in
theorem zc_X12_twinRows : Jvm.Cond.code (zMy zr_X12_twinRows) (zMb zr_X12_twinRows) (zMl zr_X12_twinRows) (zMr zr_X12_twinRows) ∈ zgt ∧ Jvm.Cond.initialized (zMy zr_X12_twinRows).cls ∈ zgt ∧ plainFor (zMy zr_X12_twinRows) = true := ⟨zg_of (List.mem_of_getElem? (i := 1655) (by rfl)) rfl, zg_of (List.mem_of_getElem? (i := 111) (by rfl)) rfl, by decide +kernel⟩
set_option maxRecDepth 100000 in
theorem zk_X12_isUsedArc : zca zrecs zr_X12_isUsedArc 0 zo_X12_isUsedArc zq_X12_isUsedArc = true := by decide +kernel
theorem zd_X12_isUsedArc : zdown 191 zo_X12_isUsedArc = true := by decide +kernel
set_option maxRecDepth 100000 in
theorem zc_X12_isUsedArc : Jvm.Cond.code (zMy zr_X12_isUsedArc) (zMb zr_X12_isUsedArc) (zMl zr_X12_isUsedArc) (zMr zr_X12_isUsedArc) ∈ zgt ∧ Jvm.Cond.initialized (zMy zr_X12_isUsedArc).cls ∈ zgt ∧ plainFor (zMy zr_X12_isUsedArc) = true := ⟨zg_of (List.mem_of_getElem? (i := 1647) (by rfl)) rfl, zg_of (List.mem_of_getElem? (i := 111) (by rfl)) rfl, by decide +kernel⟩
set_option maxRecDepth 100000 in
theorem zk_X12_twinsOf : zca zrecs zr_X12_twinsOf 0 zo_X12_twinsOf zq_X12_twinsOf = true := by decide +kernel
theorem zd_X12_twinsOf : zdown 192 zo_X12_twinsOf = true := by decide +kernel
set_option maxRecDepth 100000 in
theorem zc_X12_twinsOf : Jvm.Cond.code (zMy zr_X12_twinsOf) (zMb zr_X12_twinsOf) (zMl zr_X12_twinsOf) (zMr zr_X12_twinsOf) ∈ zgt ∧ Jvm.Cond.initialized (zMy zr_X12_twinsOf).cls ∈ zgt ∧ plainFor (zMy zr_X12_twinsOf) = true := ⟨zg_of (List.mem_of_getElem? (i := 1643) (by rfl)) rfl, zg_of (List.mem_of_getElem? (i := 111) (by rfl)) rfl, by decide +kernel⟩
set_option maxRecDepth 100000 in
theorem zk_X12_draws : zca zrecs zr_X12_draws 0 zo_X12_draws zq_X12_draws = true := by decide +kernel
theorem zd_X12_draws : zdown 193 zo_X12_draws = true := by decide +kernel
set_option maxRecDepth 100000 in
theorem zc_X12_draws : Jvm.Cond.code (zMy zr_X12_draws) (zMb zr_X12_draws) (zMl zr_X12_draws) (zMr zr_X12_draws) ∈ zgt ∧ Jvm.Cond.initialized (zMy zr_X12_draws).cls ∈ zgt ∧ plainFor (zMy zr_X12_draws) = true := ⟨zg_of (List.mem_of_getElem? (i := 1671) (by rfl)) rfl, zg_of (List.mem_of_getElem? (i := 111) (by rfl)) rfl, by decide +kernel⟩
set_option maxRecDepth 100000 in
theorem zk_X12_setOfNow : zca zrecs zr_X12_setOfNow 0 zo_X12_setOfNow zq_X12_setOfNow = true := by decide +kernel
theorem zd_X12_setOfNow : zdown 194 zo_X12_setOfNow = true := by decide +kernel
set_option maxRecDepth 100000 in
theorem zc_X12_setOfNow : Jvm.Cond.code (zMy zr_X12_setOfNow) (zMb zr_X12_setOfNow) (zMl zr_X12_setOfNow) (zMr zr_X12_setOfNow) ∈ zgt ∧ Jvm.Cond.initialized (zMy zr_X12_setOfNow).cls ∈ zgt ∧ plainFor (zMy zr_X12_setOfNow) = true := ⟨zg_of (List.mem_of_getElem? (i := 1663) (by rfl)) rfl, zg_of (List.mem_of_getElem? (i := 111) (by rfl)) rfl, by decide +kernel⟩
set_option maxRecDepth 100000 in
theorem zk_X12_goesOn : zca zrecs zr_X12_goesOn 0 zo_X12_goesOn zq_X12_goesOn = true := by decide +kernel
theorem zd_X12_goesOn : zdown 195 zo_X12_goesOn = true := by decide +kernel
set_option maxRecDepth 100000 in
theorem zc_X12_goesOn : Jvm.Cond.code (zMy zr_X12_goesOn) (zMb zr_X12_goesOn) (zMl zr_X12_goesOn) (zMr zr_X12_goesOn) ∈ zgt ∧ Jvm.Cond.initialized (zMy zr_X12_goesOn).cls ∈ zgt ∧ plainFor (zMy zr_X12_goesOn) = true := ⟨zg_of (List.mem_of_getElem? (i := 1667) (by rfl)) rfl, zg_of (List.mem_of_getElem? (i := 111) (by rfl)) rfl, by decide +kernel⟩
set_option maxRecDepth 100000 in
theorem zk_X12_makes : zca zrecs zr_X12_makes 0 zo_X12_makes zq_X12_makes = true := by decide +kernel
theorem zd_X12_makes : zdown 196 zo_X12_makes = true := by decide +kernel
set_option maxRecDepth 100000 in
theorem zc_X12_makes : Jvm.Cond.code (zMy zr_X12_makes) (zMb zr_X12_makes) (zMl zr_X12_makes) (zMr zr_X12_makes) ∈ zgt ∧ Jvm.Cond.initialized (zMy zr_X12_makes).cls ∈ zgt ∧ plainFor (zMy zr_X12_makes) = true := ⟨zg_of (List.mem_of_getElem? (i := 1659) (by rfl)) rfl, zg_of (List.mem_of_getElem? (i := 111) (by rfl)) rfl, by decide +kernel⟩
set_option maxRecDepth 100000 in
theorem zk_X12_endsOf : zca zrecs zr_X12_endsOf 0 zo_X12_endsOf zq_X12_endsOf = true := by decide +kernel
theorem zd_X12_endsOf : zdown 197 zo_X12_endsOf = true := by decide +kernel
set_option maxRecDepth 100000 in
theorem zc_X12_endsOf : Jvm.Cond.code (zMy zr_X12_endsOf) (zMb zr_X12_endsOf) (zMl zr_X12_endsOf) (zMr zr_X12_endsOf) ∈ zgt ∧ Jvm.Cond.initialized (zMy zr_X12_endsOf).cls ∈ zgt ∧ plainFor (zMy zr_X12_endsOf) = true := ⟨zg_of (List.mem_of_getElem? (i := 1675) (by rfl)) rfl, zg_of (List.mem_of_getElem? (i := 111) (by rfl)) rfl, by decide +kernel⟩
set_option maxRecDepth 100000 in
theorem zk_X12_tries : zca zrecs zr_X12_tries 0 zo_X12_tries zq_X12_tries = true := by decide +kernel
theorem zd_X12_tries : zdown 198 zo_X12_tries = true := by decide +kernel
set_option maxRecDepth 100000 in
theorem zc_X12_tries : Jvm.Cond.code (zMy zr_X12_tries) (zMb zr_X12_tries) (zMl zr_X12_tries) (zMr zr_X12_tries) ∈ zgt ∧ Jvm.Cond.initialized (zMy zr_X12_tries).cls ∈ zgt ∧ plainFor (zMy zr_X12_tries) = true := ⟨zg_of (List.mem_of_getElem? (i := 1683) (by rfl)) rfl, zg_of (List.mem_of_getElem? (i := 111) (by rfl)) rfl, by decide +kernel⟩
set_option maxRecDepth 100000 in
theorem zk_X12_heads : zca zrecs zr_X12_heads 0 zo_X12_heads zq_X12_heads = true := by decide +kernel
theorem zd_X12_heads : zdown 199 zo_X12_heads = true := by decide +kernel
set_option maxRecDepth 100000 in
theorem zc_X12_heads : Jvm.Cond.code (zMy zr_X12_heads) (zMb zr_X12_heads) (zMl zr_X12_heads) (zMr zr_X12_heads) ∈ zgt ∧ Jvm.Cond.initialized (zMy zr_X12_heads).cls ∈ zgt ∧ plainFor (zMy zr_X12_heads) = true := ⟨zg_of (List.mem_of_getElem? (i := 1679) (by rfl)) rfl, zg_of (List.mem_of_getElem? (i := 111) (by rfl)) rfl, by decide +kernel⟩
