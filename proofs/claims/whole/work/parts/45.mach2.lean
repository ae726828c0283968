/-! The machines of the class, further: what changes them. -/
theorem kS {h : zM} {a b k c : Nat} {x : Int32} (hk : zK h a = c) : zK (zsI h b k x) a = c := hk
theorem s_fill_loop {a N : Nat} {x : Int32} : ∀ (f i : Nat) (h : zM), N - i ≤ f → i ≤ N → N < 2 ^ 30 → zK h a = 101 → zN h a = N → ∃ h', zm_J7_fill_53178 5 [some (.inr a), some (.inl x), some (.inl (nI i)), some (.inl (nI N))] [] h = some (0, 0, h') ∧ zFr a (a + 1) h h' ∧ (∀ j, i ≤ j → j < N → zI h' a j = x) ∧ ∀ j, j < i → zI h' a j = zI h a j := by
  intro f
  induction f with
  | zero =>
    intro i h hf hi hN hk hn
    rw [e_J7_fill_53178_5, if_neg (by rw [nI_ltI (by omega) (by omega)]; omega)]
    exact ⟨h, rfl, zFr.rf, fun j h1 h2 => by omega, fun _ _ => rfl⟩
  | succ f ih =>
    intro i h hf hi hN hk hn
    rw [e_J7_fill_53178_5]
    by_cases c : i < N
    · rw [if_pos ((nI_ltI (by omega) (by omega)).mpr c), zis_ok hk (by omega) (by omega), Option.bind_some, nI_1]
      obtain ⟨h', g1, g2, g3, g4⟩ := ih (i + 1) (zsI h a i x) (by omega) (by omega) hN hk hn
      refine ⟨h', g1, (zFr_sI (by omega) (by omega)).tr g2, fun j h1 h2 => ?_, fun j hj => ?_⟩
      · by_cases e : j = i
        · subst e
          rw [g4 j (by omega), zI_sI]
        · exact g3 j (by omega) h2
      · rw [g4 j (by omega), zI_sI_k (by omega)]
    · rw [if_neg (by rw [nI_ltI (by omega) (by omega)]; exact c)]
      exact ⟨h, rfl, zFr.rf, fun j h1 h2 => by omega, fun _ _ => rfl⟩
theorem s_fill {h : zM} {a N : Nat} (hk : zK h a = 101) (hn : zN h a = N) (hN : N < 2 ^ 30) (x : Int32) : ∃ h', zf nJ7_fill_53178 [.inr a, .inl x] h = some (0, 0, h') ∧ zFr a (a + 1) h h' ∧ ∀ j, j < N → zI h' a j = x := by
  rw [e_J7_fill_53178, zal_ok (by omega), hn, Option.bind_some]
  obtain ⟨h', g1, g2, g3, -⟩ := s_fill_loop (x := x) N 0 h (by omega) (Nat.zero_le _) hN hk hn
  exact ⟨h', g1, g2, fun j hj => g3 j (Nat.zero_le _) hj⟩
def newM (n : Nat) : zMa := (n, 0, fun _ => none, [])
theorem newM_ok {n : Nat} (h : n ≤ 6) : MaOk (newM n) := ⟨h, Nat.pow_pos (by decide), (fun q w e => by cases e), Nat.zero_le _, (fun a ha => by cases ha)⟩
theorem s_renew {h : zM} {a : Nat} (l : Lay T2 2 h a) (n : Nat) : ∃ h', zf nX2_renew [.inr a, .inl (nI n)] h = some (0, 0, h') ∧ zFr a (a + 6) h h' ∧ MC h' a (newM n) := by
  have k : zK h a = 2 + 1 := l.1
  have l1 := l.2 (3, 1, 101, 6) (by decide)
  rw [e_X2_renew, zpI_ok k, Option.bind_some, zpI_ok (kS k), Option.bind_some, zpI_ok (kS (kS k)), Option.bind_some, zgF_ok (kS (kS (kS k))), Option.bind_some]
  rw [zF_sI, zF_sI, zF_sI, l1.1]
  obtain ⟨h', g1, g2, g3⟩ := s_fill (h := zsI (zsI (zsI h a 0 (nI n)) a 1 0) a 2 0) (a := a + 1) (N := 6) l1.2.1 l1.2.2 (by decide) (-1)
  rw [g1, Option.bind_some]
  have f0 : zFr a (a + 6) h (zsI (zsI (zsI h a 0 (nI n)) a 1 0) a 2 0) := ((zFr_sI (by omega) (by omega)).tr (zFr_sI (by omega) (by omega))).tr (zFr_sI (by omega) (by omega))
  have f1 := f0.tr (g2.wide (lo' := a) (hi' := a + 6) (by omega) (by omega))
  refine ⟨h', rfl, f1, l.keep f1, ?_, ?_, ?_, fun q hq => g3 q hq, fun i hi => absurd hi (Nat.not_lt_zero _)⟩
  · rw [g2.I (by omega), zI_sI_k (by decide), zI_sI_k (by decide), zI_sI]; rfl
  · rw [g2.I (by omega), zI_sI_k (by decide), zI_sI]; rfl
  · rw [g2.I (by omega), zI_sI]; rfl
/-- a state is a beginning one, or not -/
def begM (M : zMa) (q : Nat) (is : Bool) : zMa := (M.1, if is then M.2.1 ||| 2 ^ q else M.2.1 - (M.2.1 &&& 2 ^ q), M.2.2.1, M.2.2.2)
theorem bit_off : ∀ B, B < 64 → ∀ q, q < 6 → nI B &&& (((1 : Int32) <<< (nI q &&& 31)) ^^^ (-1 : Int32)) = nI (B - (B &&& 2 ^ q)) := by decide +kernel
theorem bit_or_n : ∀ n, n ≤ 6 → ∀ B, B < 2 ^ n → ∀ q, q < n → B ||| 2 ^ q < 2 ^ n := by decide +kernel
theorem begM_ok {M : zMa} (k : MaOk M) {q : Nat} (hq : q < M.1) (is : Bool) : MaOk (begM M q is) := by
  refine ⟨k.1, ?_, k.2.2⟩
  cases is
  · exact Nat.lt_of_le_of_lt (Nat.sub_le _ _) k.2.1
  · exact bit_or_n M.1 k.1 M.2.1 k.2.1 q hq
theorem s_setBeginning {h : zM} {a : Nat} {M : zMa} (m : MC h a M) (k : MaOk M) {q : Nat} (hq : q < M.1) (is : Int32) : ∃ h', zf nX2_setBeginning [.inr a, .inl (nI q), .inl is] h = some (0, 0, h') ∧ zFr a (a + 6) h h' ∧ MC h' a (begM M q (decide (is ≠ 0))) := by
  have hb := k.beg64
  have h6 := k.1
  have fin : ∀ B : Nat, MC (zsI h a 2 (nI B)) a (M.1, B, M.2.2.1, M.2.2.2) := by
    intro B
    obtain ⟨m1, m2, m3, m4, m5, m6⟩ := m
    have f : zFr a (a + 1) h (zsI h a 2 (nI B)) := zFr_sI (by omega) (by omega)
    refine ⟨m1.keep f, by rw [zI_sI_k (by decide)]; exact m2, by rw [zI_sI_k (by decide)]; exact m3, zI_sI, fun q hq => by rw [f.I (by omega)]; exact m5 q hq, fun i hi => by rw [f.I (by omega), f.I (by omega), f.I (by omega), f.I (by omega)]; exact m6 i hi⟩
  rw [e_X2_setBeginning, m.beg, Option.bind_some]
  by_cases c : is = 0
  · rw [if_pos c, bit_off _ hb _ (by omega), zpI_ok m.1.1, Option.bind_some]
    refine ⟨_, rfl, zFr_sI (by omega) (by omega), ?_⟩
    have : begM M q (decide (is ≠ 0)) = (M.1, M.2.1 - (M.2.1 &&& 2 ^ q), M.2.2.1, M.2.2.2) := by simp [begM, c]
    rw [this]
    exact fin _
  · rw [if_neg c]
    simp only [Option.bind_some]
    rw [bit_or _ hb _ (by omega), zpI_ok m.1.1, Option.bind_some]
    refine ⟨_, rfl, zFr_sI (by omega) (by omega), ?_⟩
    have : begM M q (decide (is ≠ 0)) = (M.1, M.2.1 ||| 2 ^ q, M.2.2.1, M.2.2.2) := by simp [begM, c]
    rw [this]
    exact fin _
/-- the end of a state -/
def setE (M : zMa) (q : Nat) (o : Option Nat) : zMa := (M.1, M.2.1, va_up M.2.2.1 q o, M.2.2.2)
theorem setE_ok {M : zMa} (k : MaOk M) {q : Nat} (hq : q < M.1) {o : Option Nat} (ho : ∀ w, o = some w → wOk w) : MaOk (setE M q o) := by
  refine ⟨k.1, k.2.1, fun q' w e => ?_, k.2.2.2⟩
  by_cases c : q' = q
  · subst c
    have e : va_up M.2.2.1 q' o q' = some w := e
    rw [va_up_self] at e
    exact ⟨hq, ho w e⟩
  · have e : va_up M.2.2.1 q o q' = some w := e
    rw [va_up_ne _ _ c] at e
    exact k.2.2.1 q' w e
theorem MC.setE {h : zM} {a : Nat} {M : zMa} (m : MC h a M) (q : Nat) (o : Option Nat) : MC (zsI h (a + 1) q (eI o)) a (setE M q o) := by
  obtain ⟨m1, m2, m3, m4, m5, m6⟩ := m
  have f : zFr (a + 1) (a + 2) h (zsI h (a + 1) q (eI o)) := zFr_sI (by omega) (by omega)
  refine ⟨m1.keep f, by rw [f.I (by omega)]; exact m2, by rw [f.I (by omega)]; exact m3, by rw [f.I (by omega)]; exact m4, fun q' hq => ?_, fun i hi => by rw [f.I (by omega), f.I (by omega), f.I (by omega), f.I (by omega)]; exact m6 i hi⟩
  by_cases c : q' = q
  · subst c
    rw [zI_sI]
    show eI o = eI (va_up M.2.2.1 q' o q')
    rw [va_up_self]
  · rw [zI_sI_k c, m5 q' hq]
    show _ = eI (va_up M.2.2.1 q o q')
    rw [va_up_ne _ _ c]
-- arcs
theorem arc_eq {M : zMa} (k : MaOk M) {i : Nat} (hi : i < M.2.2.2.length) {x : zArc} (hx : x.1 < 6 ∧ x.2.1 ≤ 3 ∧ x.2.2.1 < 6 ∧ x.2.2.2 < 1000) :
    (nI (arcAt M i).1 = nI x.1 ∧ nI (arcAt M i).2.1 = nI x.2.1 ∧ nI (arcAt M i).2.2.1 = nI x.2.2.1 ∧ nI (arcAt M i).2.2.2 = nI x.2.2.2) ↔ arcAt M i = x := by
  have ka := k.at hi
  have k6 := k.1
  rw [nI_eq (by omega) (by omega), nI_eq (by omega) (by omega), nI_eq (by omega) (by omega), nI_eq (by omega) (by omega)]
  constructor
  · rintro ⟨a, b, c, d⟩
    exact Prod.ext a (Prod.ext b (Prod.ext c d))
  · intro e
    rw [e]
    exact ⟨rfl, rfl, rfl, rfl⟩
/-- an arc more: how many there are then (NONE: there would be too many) -/
def addA (M : zMa) (x : zArc) : Int32 × zMa := if x ∈ M.2.2.2 then (nI M.2.2.2.length, M) else if M.2.2.2.length < 30 then (nI (M.2.2.2.length + 1), (M.1, M.2.1, M.2.2.1, M.2.2.2 ++ [x])) else (-1, M)
theorem addA_ok {M : zMa} (k : MaOk M) {x : zArc} (hx : x.1 < M.1 ∧ (1 ≤ x.2.1 ∧ x.2.1 ≤ 3) ∧ x.2.2.1 < M.1 ∧ wOk x.2.2.2) : MaOk (addA M x).2 := by
  unfold addA
  split
  · exact k
  · split
    · refine ⟨k.1, k.2.1, k.2.2.1, by simp; omega, fun y hy => ?_⟩
      rcases List.mem_append.mp hy with q | q
      · exact k.2.2.2.2 y q
      · rw [List.mem_singleton.mp q]; exact hx
    · exact k
theorem s_addArc_loop {h : zM} {a : Nat} {M : zMa} (m : MC h a M) (k : MaOk M) {x : zArc} (hx : x.1 < M.1 ∧ (1 ≤ x.2.1 ∧ x.2.1 ≤ 3) ∧ x.2.2.1 < M.1 ∧ x.2.2.2 < 1000) : ∀ (f i : Nat), M.2.2.2.length - i ≤ f → i ≤ M.2.2.2.length → x ∉ M.2.2.2.take i →
    ∃ h', zm_X2_addArc 3 [some (.inr a), some (.inl (nI x.1)), some (.inl (nI x.2.1)), some (.inl (nI x.2.2.1)), some (.inl (nI x.2.2.2)), some (.inl (nI i))] [] h = some ((addA M x).1, 0, h') ∧ zFr a (a + 6) h h' ∧ MC h' a (addA M x).2 := by
  have k6 := k.1
  have k30 := k.2.2.2.1
  intro f
  induction f with
  | zero =>
    intro i hf hi hn
    have hi2 : i = M.2.2.2.length := by omega
    subst hi2
    rw [List.take_length] at hn
    rw [e_X2_addArc_3, m.arcs, Option.bind_some, if_neg (by rw [nI_ltI (by omega) (by omega)]; omega)]
    simp only [Option.bind_some]
    by_cases c : M.2.2.2.length < 30
    · rw [if_pos (by rw [show (30 : Int32) = nI 30 from rfl, nI_ltI (by omega) (by omega)]; exact c)]
      have ea : addA M x = (nI (M.2.2.2.length + 1), (M.1, M.2.1, M.2.2.1, M.2.2.2 ++ [x])) := by unfold addA; rw [if_neg hn, if_pos c]
      rw [ea]
      have k2 := m.k2
      have k3 := m.k3
      have k4 := m.k4
      have k5 := m.k5
      generalize hL : M.2.2.2.length = L at *
      rw [m.f4, Option.bind_some, zis_ok k2.1 (by omega) (by omega), Option.bind_some]
      have w1 : zFr (a + 2) (a + 6) h (zsI h (a + 2) L (nI x.1)) := zFr_sI (by omega) (by omega)
      generalize hh1 : zsI h (a + 2) L (nI x.1) = h1 at *
      have kk1 : zK h1 a = 2 + 1 := by rw [w1.K]; exact m.1.1
      have r5 : zgF h1 a 2 5 = some (a + 3) := by rw [zgF_ok kk1, w1.F]; exact congrArg some (m.1.2 (5, 3, 101, 30) (by decide)).1
      have rl1 : zgI h1 a 2 1 = some (nI L) := by rw [zgI_ok kk1, w1.I (by omega), m.2.2.1, hL]
      rw [r5, Option.bind_some, rl1, Option.bind_some, zis_ok (by rw [w1.K]; exact k3.1) (by rw [w1.N]; omega) (by rw [w1.N]; omega), Option.bind_some]
      have w2 : zFr (a + 2) (a + 6) h (zsI h1 (a + 3) L (nI x.2.1)) := w1.tr (zFr_sI (by omega) (by omega))
      generalize hh2 : zsI h1 (a + 3) L (nI x.2.1) = h2 at *
      have kk2 : zK h2 a = 2 + 1 := by rw [w2.K]; exact m.1.1
      have r6 : zgF h2 a 2 6 = some (a + 4) := by rw [zgF_ok kk2, w2.F]; exact congrArg some (m.1.2 (6, 4, 101, 30) (by decide)).1
      have rl2 : zgI h2 a 2 1 = some (nI L) := by rw [zgI_ok kk2, w2.I (by omega), m.2.2.1, hL]
      rw [r6, Option.bind_some, rl2, Option.bind_some, zis_ok (by rw [w2.K]; exact k4.1) (by rw [w2.N]; omega) (by rw [w2.N]; omega), Option.bind_some]
      have w3 : zFr (a + 2) (a + 6) h (zsI h2 (a + 4) L (nI x.2.2.1)) := w2.tr (zFr_sI (by omega) (by omega))
      generalize hh3 : zsI h2 (a + 4) L (nI x.2.2.1) = h3 at *
      have kk3 : zK h3 a = 2 + 1 := by rw [w3.K]; exact m.1.1
      have r7 : zgF h3 a 2 7 = some (a + 5) := by rw [zgF_ok kk3, w3.F]; exact congrArg some (m.1.2 (7, 5, 101, 30) (by decide)).1
      have rl3 : zgI h3 a 2 1 = some (nI L) := by rw [zgI_ok kk3, w3.I (by omega), m.2.2.1, hL]
      rw [r7, Option.bind_some, rl3, Option.bind_some, zis_ok (by rw [w3.K]; exact k5.1) (by rw [w3.N]; omega) (by rw [w3.N]; omega), Option.bind_some]
      have w4 : zFr (a + 2) (a + 6) h (zsI h3 (a + 5) L (nI x.2.2.2)) := w3.tr (zFr_sI (by omega) (by omega))
      generalize hh4 : zsI h3 (a + 5) L (nI x.2.2.2) = h4 at *
      have kk4 : zK h4 a = 2 + 1 := by rw [w4.K]; exact m.1.1
      have rl4 : zgI h4 a 2 1 = some (nI L) := by rw [zgI_ok kk4, w4.I (by omega), m.2.2.1, hL]
      rw [rl4, Option.bind_some, zpI_ok kk4, Option.bind_some, zgI_ok (kS kk4), Option.bind_some, zI_sI, nI_1]
      have w5 : zFr a (a + 6) h (zsI h4 a 1 (nI (L + 1))) := (w4.wide (by omega) (by omega)).tr (zFr_sI (by omega) (by omega))
      refine ⟨_, rfl, w5, m.1.keep w5, ?_, ?_, ?_, fun q hq => ?_, fun i hi => ?_⟩
      · rw [zI_sI_k (by decide), w4.I (by omega)]; exact m.2.1
      · rw [zI_sI]
        show _ = nI (M.2.2.2 ++ [x]).length
        rw [List.length_append, hL]
        rfl
      · rw [zI_sI_k (by decide), w4.I (by omega)]; exact m.2.2.2.1
      · rw [zI_sI_a (by omega), w4.I (by omega)]
        exact m.2.2.2.2.1 q hq
      · have hi' : i < L + 1 := by
          have : i < (M.2.2.2 ++ [x]).length := hi
          rw [List.length_append, hL] at this
          exact this
        have v2 : zI (zsI h4 a 1 (nI (L + 1))) (a + 2) i = if i = L then nI x.1 else zI h (a + 2) i := by
          rw [zI_sI_a (by omega), ← hh4, zI_sI_a (by omega), ← hh3, zI_sI_a (by omega), ← hh2, zI_sI_a (by omega), ← hh1]
          split
          · rename_i q; rw [q, zI_sI]
          · rename_i q; rw [zI_sI_k q]
        have v3 : zI (zsI h4 a 1 (nI (L + 1))) (a + 3) i = if i = L then nI x.2.1 else zI h (a + 3) i := by
          rw [zI_sI_a (by omega), ← hh4, zI_sI_a (by omega), ← hh3, zI_sI_a (by omega), ← hh2]
          split
          · rename_i q; rw [q, zI_sI]
          · rename_i q; rw [zI_sI_k q, ← hh1, zI_sI_a (by omega)]
        have v4 : zI (zsI h4 a 1 (nI (L + 1))) (a + 4) i = if i = L then nI x.2.2.1 else zI h (a + 4) i := by
          rw [zI_sI_a (by omega), ← hh4, zI_sI_a (by omega), ← hh3]
          split
          · rename_i q; rw [q, zI_sI]
          · rename_i q; rw [zI_sI_k q, ← hh2, zI_sI_a (by omega), ← hh1, zI_sI_a (by omega)]
        have v5 : zI (zsI h4 a 1 (nI (L + 1))) (a + 5) i = if i = L then nI x.2.2.2 else zI h (a + 5) i := by
          rw [zI_sI_a (by omega), ← hh4]
          split
          · rename_i q; rw [q, zI_sI]
          · rename_i q; rw [zI_sI_k q, ← hh3, zI_sI_a (by omega), ← hh2, zI_sI_a (by omega), ← hh1, zI_sI_a (by omega)]
        rw [v2, v3, v4, v5]
        by_cases q : i = L
        · have : arcAt (M.1, M.2.1, M.2.2.1, M.2.2.2 ++ [x]) i = x := by
            unfold arcAt
            rw [List.getD_eq_getElem?_getD, List.getElem?_append_right (by omega), q, hL]
            simp
          rw [this, if_pos q, if_pos q, if_pos q, if_pos q]
          exact ⟨rfl, rfl, rfl, rfl⟩
        · have : arcAt (M.1, M.2.1, M.2.2.1, M.2.2.2 ++ [x]) i = arcAt M i := by
            unfold arcAt
            rw [List.getD_eq_getElem?_getD, List.getElem?_append_left (by omega), ← List.getD_eq_getElem?_getD]
          rw [this, if_neg q, if_neg q, if_neg q, if_neg q]
          exact m.2.2.2.2.2 i (by omega)
    · rw [if_neg (by rw [show (30 : Int32) = nI 30 from rfl, nI_ltI (by omega) (by omega)]; exact c)]
      have ea : addA M x = (-1, M) := by unfold addA; rw [if_neg hn, if_neg c]
      rw [ea]
      exact ⟨h, rfl, zFr.rf, m⟩
  | succ f ih =>
    intro i hf hi hn
    by_cases c : i < M.2.2.2.length
    · have hq := arc_eq k c (x := x) (by omega)
      by_cases e : arcAt M i = x
      · obtain ⟨a1, a2, a3, a4⟩ := hq.mpr e
        rw [e_X2_addArc_3, m.arcs, Option.bind_some, if_pos ((nI_ltI (by omega) (by omega)).mpr c), m.f4, Option.bind_some, m.rfrom k c, Option.bind_some, if_pos a1, m.f5, Option.bind_some, m.rlet k c, Option.bind_some, if_pos a2, m.f6, Option.bind_some, m.rto k c, Option.bind_some, if_pos a3, m.f7, Option.bind_some, m.rword k c, Option.bind_some, if_pos a4]
        simp only [Option.bind_some]
        have hmem : x ∈ M.2.2.2 := by
          rw [← e]
          unfold arcAt
          rw [List.getD_eq_getElem?_getD, List.getElem?_eq_getElem c]
          exact List.getElem_mem c
        have ea : addA M x = (nI M.2.2.2.length, M) := by unfold addA; rw [if_pos hmem]
        rw [ea]
        exact ⟨h, rfl, zFr.rf, m⟩
      · have hn' : x ∉ M.2.2.2.take (i + 1) := by
          rw [List.take_succ]
          intro hm
          rcases List.mem_append.mp hm with q | q
          · exact hn q
          · rw [List.getElem?_eq_getElem c] at q
            have q2 : x = M.2.2.2[i] := by simpa using q
            apply e
            unfold arcAt
            rw [List.getD_eq_getElem?_getD, List.getElem?_eq_getElem c, q2]
            rfl
        obtain ⟨h', g1, g2, g3⟩ := ih (i + 1) (by omega) (by omega) hn'
        refine ⟨h', ?_, g2, g3⟩
        rw [← g1, e_X2_addArc_3, m.arcs, Option.bind_some, if_pos ((nI_ltI (by omega) (by omega)).mpr c), m.f4, Option.bind_some, m.rfrom k c, Option.bind_some, nI_1]
        by_cases a1 : nI (arcAt M i).1 = nI x.1
        · rw [if_pos a1, m.f5, Option.bind_some, m.rlet k c, Option.bind_some]
          by_cases a2 : nI (arcAt M i).2.1 = nI x.2.1
          · rw [if_pos a2, m.f6, Option.bind_some, m.rto k c, Option.bind_some]
            by_cases a3 : nI (arcAt M i).2.2.1 = nI x.2.2.1
            · rw [if_pos a3, m.f7, Option.bind_some, m.rword k c, Option.bind_some, if_neg (fun a4 => e (hq.mp ⟨a1, a2, a3, a4⟩))]
            · rw [if_neg a3]
          · rw [if_neg a2]
        · rw [if_neg a1]
    · exact ih i (by omega) hi hn
theorem s_addArc {h : zM} {a : Nat} {M : zMa} (m : MC h a M) (k : MaOk M) {x : zArc} (hx : x.1 < M.1 ∧ (1 ≤ x.2.1 ∧ x.2.1 ≤ 3) ∧ x.2.2.1 < M.1 ∧ x.2.2.2 < 1000) :
    ∃ h', zf nX2_addArc [.inr a, .inl (nI x.1), .inl (nI x.2.1), .inl (nI x.2.2.1), .inl (nI x.2.2.2)] h = some ((addA M x).1, 0, h') ∧ zFr a (a + 6) h h' ∧ MC h' a (addA M x).2 := by
  rw [e_X2_addArc]
  exact s_addArc_loop m k hx _ 0 (Nat.le_refl _) (Nat.zero_le _) (by rw [List.take_zero]; exact List.not_mem_nil)
