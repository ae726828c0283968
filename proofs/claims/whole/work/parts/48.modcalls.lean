/-! The reference: the calls on machines. -/
def bI (b : Bool) : Int32 := if b then 1 else 0
theorem bI01 (b : Bool) : bI b = 0 ∨ bI b = 1 := by cases b <;> simp [bI]
theorem bI_0 {b : Bool} : bI b = 0 ↔ b = false := by cases b <;> decide
theorem n6 : (6 : Int32) = nI 6 := rfl
theorem n30 : (30 : Int32) = nI 30 := rfl
def MMs (h : zM) (m : Nat) (Ms : Nat → zMa) : Prop := MLay h m ∧ ∀ t, t < 2 → zI h (m + 1) t = nI (Ms t).1 ∧ zI h (m + 4) t = nI (Ms t).2.2.2.length ∧ (∀ q, q < 6 → zI h (m + 2) (6 * t + q) = bI ((Ms t).2.1.testBit q) ∧ (q < (Ms t).1 → zI h (m + 3) (6 * t + q) = eI ((Ms t).2.2.1 q))) ∧
  ∀ i, i < (Ms t).2.2.2.length → zI h (m + 5) (30 * t + i) = nI (arcAt (Ms t) i).1 ∧ zI h (m + 6) (30 * t + i) = nI (arcAt (Ms t) i).2.1 ∧ zI h (m + 7) (30 * t + i) = nI (arcAt (Ms t) i).2.2.1 ∧ zI h (m + 8) (30 * t + i) = nI (arcAt (Ms t) i).2.2.2
theorem MMs.keep {lo hi m : Nat} {h h' : zM} {Ms : Nat → zMa} (d : MMs h m Ms) (f : zFr lo hi h h') (hd : m + 9 ≤ lo ∨ hi ≤ m + 1) : MMs h' m Ms := by
  refine ⟨d.1.keep f, fun t ht => ?_⟩
  obtain ⟨a1, a2, a3, a4⟩ := d.2 t ht
  exact ⟨by rw [f.I (by omega)]; exact a1, by rw [f.I (by omega)]; exact a2, fun q hq => by rw [f.I (by omega), f.I (by omega)]; exact a3 q hq, fun i hi => by rw [f.I (by omega), f.I (by omega), f.I (by omega), f.I (by omega)]; exact a4 i hi⟩
/-- one machine of the two is another one behind it -/
theorem MMs.put {m t : Nat} {h h' : zM} {Ms : Nat → zMa} {M : zMa} (d : MMs h m Ms) (ht : t < 2) (hl : MLay h' m)
    (h1 : zI h' (m + 1) t = nI M.1) (h2 : zI h' (m + 4) t = nI M.2.2.2.length) (h3 : ∀ q, q < 6 → zI h' (m + 2) (6 * t + q) = bI (M.2.1.testBit q) ∧ (q < M.1 → zI h' (m + 3) (6 * t + q) = eI (M.2.2.1 q)))
    (h4 : ∀ i, i < M.2.2.2.length → zI h' (m + 5) (30 * t + i) = nI (arcAt M i).1 ∧ zI h' (m + 6) (30 * t + i) = nI (arcAt M i).2.1 ∧ zI h' (m + 7) (30 * t + i) = nI (arcAt M i).2.2.1 ∧ zI h' (m + 8) (30 * t + i) = nI (arcAt M i).2.2.2)
    (o1 : ∀ s, s < 2 → s ≠ t → zI h' (m + 1) s = zI h (m + 1) s ∧ zI h' (m + 4) s = zI h (m + 4) s) (o2 : ∀ s q, s < 2 → q < 6 → s ≠ t → zI h' (m + 2) (6 * s + q) = zI h (m + 2) (6 * s + q) ∧ zI h' (m + 3) (6 * s + q) = zI h (m + 3) (6 * s + q))
    (o3 : ∀ s i, s < 2 → i < 30 → s ≠ t → zI h' (m + 5) (30 * s + i) = zI h (m + 5) (30 * s + i) ∧ zI h' (m + 6) (30 * s + i) = zI h (m + 6) (30 * s + i) ∧ zI h' (m + 7) (30 * s + i) = zI h (m + 7) (30 * s + i) ∧ zI h' (m + 8) (30 * s + i) = zI h (m + 8) (30 * s + i)) (hk : ∀ t, t < 2 → MaOk (Ms t)) : MMs h' m (va_up Ms t M) := by
  refine ⟨hl, fun s hs => ?_⟩
  by_cases c : s = t
  · subst c
    rw [va_up_self]
    exact ⟨h1, h2, h3, h4⟩
  · rw [va_up_ne _ _ c]
    obtain ⟨a1, a2, a3, a4⟩ := d.2 s hs
    have h30 := (hk s hs).2.2.2.1
    exact ⟨(o1 s hs c).1.trans a1, (o1 s hs c).2.trans a2, fun q hq => ⟨(o2 s q hs hq c).1.trans (a3 q hq).1, fun w => (o2 s q hs hq c).2.trans ((a3 q hq).2 w)⟩, fun i hi => by
      obtain ⟨b1, b2, b3, b4⟩ := o3 s i hs (by omega) c
      obtain ⟨c1, c2, c3, c4⟩ := a4 i hi
      exact ⟨b1.trans c1, b2.trans c2, b3.trans c3, b4.trans c4⟩⟩
section MMR
variable {h : zM} {m t : Nat} {Ms : Nat → zMa}
theorem MMs.many (d : MMs h m Ms) (ht : t < 2) : zia h (m + 1) (nI t) = some (nI (Ms t).1) := (mr0 d.1 ht).trans (congrArg some (d.2 t ht).1)
theorem MMs.arcs (d : MMs h m Ms) (ht : t < 2) : zia h (m + 4) (nI t) = some (nI (Ms t).2.2.2.length) := (mr3 d.1 ht).trans (congrArg some (d.2 t ht).2.1)
theorem MMs.first (d : MMs h m Ms) (ht : t < 2) {q : Nat} (hq : q < 6) : zba h (m + 2) (nI (6 * t + q)) = some (bI ((Ms t).2.1.testBit q)) := (mr1 d.1 (by omega)).trans (congrArg some ((d.2 t ht).2.2.1 q hq).1)
theorem MMs.ende (d : MMs h m Ms) (ht : t < 2) {q : Nat} (hq : q < 6) (hc : q < (Ms t).1) : zia h (m + 3) (nI (6 * t + q)) = some (eI ((Ms t).2.2.1 q)) := (mr2 d.1 (by omega)).trans (congrArg some (((d.2 t ht).2.2.1 q hq).2 hc))
theorem MMs.from (d : MMs h m Ms) (ht : t < 2) (k : MaOk (Ms t)) {i : Nat} (hi : i < (Ms t).2.2.2.length) : zia h (m + 5) (nI (30 * t + i)) = some (nI (arcAt (Ms t) i).1) := (mr4 d.1 (by have := k.2.2.2.1; omega)).trans (congrArg some ((d.2 t ht).2.2.2 i hi).1)
theorem MMs.by (d : MMs h m Ms) (ht : t < 2) (k : MaOk (Ms t)) {i : Nat} (hi : i < (Ms t).2.2.2.length) : zia h (m + 6) (nI (30 * t + i)) = some (nI (arcAt (Ms t) i).2.1) := (mr5 d.1 (by have := k.2.2.2.1; omega)).trans (congrArg some ((d.2 t ht).2.2.2 i hi).2.1)
theorem MMs.to (d : MMs h m Ms) (ht : t < 2) (k : MaOk (Ms t)) {i : Nat} (hi : i < (Ms t).2.2.2.length) : zia h (m + 7) (nI (30 * t + i)) = some (nI (arcAt (Ms t) i).2.2.1) := (mr6 d.1 (by have := k.2.2.2.1; omega)).trans (congrArg some ((d.2 t ht).2.2.2 i hi).2.2.1)
theorem MMs.word (d : MMs h m Ms) (ht : t < 2) (k : MaOk (Ms t)) {i : Nat} (hi : i < (Ms t).2.2.2.length) : zia h (m + 8) (nI (30 * t + i)) = some (nI (arcAt (Ms t) i).2.2.2) := (mr7 d.1 (by have := k.2.2.2.1; omega)).trans (congrArg some ((d.2 t ht).2.2.2 i hi).2.2.2)
end MMR
theorem isT_iff (t : Int32) : isT t = true ↔ t = 0 ∨ t = 1 := by
  constructor
  · intro h
    obtain ⟨j, hj, rfl⟩ := isT_of h
    rcases (show j = 0 ∨ j = 1 by omega) with rfl | rfl
    · exact Or.inl rfl
    · exact Or.inr rfl
  · rintro (rfl | rfl) <;> decide
theorem s_misMachine (t : Int32) (h : zM) : zf nX12_isMachine [.inl t] h = some (if isT t then 1 else 0, 0, h) := by
  rw [e_X12_isMachine]
  have := isT_iff t
  by_cases c0 : t = 0
  · rw [if_pos c0, zb1, if_pos (this.mpr (Or.inl c0))]
  · rw [if_neg c0]
    by_cases c1 : t = 1
    · rw [if_pos c1, zb1, if_pos (this.mpr (Or.inr c1))]
    · rw [if_neg c1, zb0, if_neg (fun z => by rcases this.mp z with q | q; exact c0 q; exact c1 q)]
theorem s_misState {h : zM} {m : Nat} {Ms : Nat → zMa} (d : MMs h m Ms) (t q : Int32) : zf nX12_isState [.inr m, .inl t, .inl q] h = some (if isQ Ms t q then 1 else 0, 0, h) := by
  rw [e_X12_isState, s_misMachine, Option.bind_some]
  unfold isQ
  by_cases ct : isT t = true
  · obtain ⟨j, hj, rfl⟩ := isT_of ct
    simp only [ct, if_true, Bool.true_and]
    rw [if_neg (by decide)]
    by_cases c1 : q < 0
    · rw [if_pos c1, zb0]; simp [c1]
    · rw [if_neg c1, mF0 d.1, Option.bind_some, d.many hj, Option.bind_some, nI_clamp (by omega)]
      by_cases c2 : q < nI (Ms j).1
      · rw [if_pos c2, zb1]; simp [c1, c2]
      · rw [if_neg c2, zb0]; simp [c2]
  · have cf : isT t = false := by simpa using ct
    simp only [cf, Bool.false_and]
    rw [if_pos (by decide), zb0]
    rfl
/-- how many letters; NONE if it is no word -/
def ltI (most : Nat) (w : Int32) : Int32 := if w < 0 then -1 else match lf 11 most w.toNatClampNeg with
  | none => -1
  | some k => nI k
theorem s_letters_loop {h : zM} {most : Nat} {w : Int32} (hm : most < 2 ^ 30) : ∀ (f r c : Nat), r < 10 ^ f → r < 2 ^ 31 → c + f < 2 ^ 30 → zm_X12_letters 10 [some (.inl w), some (.inl (nI most)), some (.inl (nI c)), some (.inl (nI r))] [] h = some (match lf f most r with
      | none => -1
      | some k => nI (c + k), 0, h) := by
  intro f
  induction f with
  | zero =>
    intro r c h1 h2 h3
    have hr : r = 0 := by simpa using h1
    subst hr
    rw [e_X12_letters_10, if_neg (by decide)]
    rfl
  | succ f ih =>
    intro r c h1 h2 h3
    rw [e_X12_letters_10]
    unfold lf
    by_cases c0 : r = 0
    · subst c0
      rw [if_neg (by decide), if_pos rfl]
      rfl
    · rw [if_pos (by rw [show (0 : Int32) = nI 0 from rfl, nI_ltI (by decide) h2]; omega), if_neg z10, if_neg c0]
      rw [nI_lit10, pk_rem h2 (by decide) (by decide), pk_div h2 (by decide) (by decide), nI_1]
      by_cases q1 : r % 10 < 1
      · rw [if_pos (by rw [show (1 : Int32) = nI 1 from rfl, nI_ltI (by omega) (by decide)]; exact q1), if_pos (Or.inl q1)]
      · rw [if_neg (by rw [show (1 : Int32) = nI 1 from rfl, nI_ltI (by omega) (by decide)]; exact q1), if_neg (show ¬ nI 10 = 0 from z10)]
        by_cases q2 : most < r % 10
        · rw [if_pos (by rw [nI_ltI (by omega) (by omega)]; exact q2), if_pos (Or.inr q2)]
        · rw [if_neg (by rw [nI_ltI (by omega) (by omega)]; exact q2), if_neg (show ¬ nI 10 = 0 from z10), if_neg (show ¬ (r % 10 < 1 ∨ most < r % 10) by omega)]
          rw [ih (r / 10) (c + 1) (by rw [Nat.pow_succ] at h1; omega) (by omega) (by omega)]
          cases lf f most (r / 10) with
          | none => rfl
          | some k =>
            dsimp only [Option.map]
            rw [show c + 1 + k = c + (k + 1) by omega]
theorem s_letters (most : Nat) (hm : most < 2 ^ 30) (w : Int32) (h : zM) : zf nX12_letters [.inl w, .inl (nI most)] h = some (ltI most w, 0, h) := by
  rw [e_X12_letters]
  unfold ltI
  by_cases c : w < 0
  · rw [if_pos c, if_pos c]
  · rw [if_neg c, if_neg c]
    obtain ⟨r, hr, rfl⟩ := nI_of c
    rw [nI_clamp hr, show (0 : Int32) = nI 0 from rfl, s_letters_loop hm 11 r 0 (by omega) hr (by omega)]
    cases lf 11 most r with
    | none => rfl
    | some k => dsimp only; rw [Nat.zero_add]
theorem lf_le : ∀ (f most x k : Nat), lf f most x = some k → k ≤ f
  | 0, most, x, k, e => by cases e; omega
  | f + 1, most, x, k, e => by
    unfold lf at e
    split at e
    · cases e; omega
    · split at e
      · cases e
      · obtain ⟨j, hj, rfl⟩ := Option.map_eq_some_iff.mp e
        have := lf_le f most (x / 10) j hj
        omega
theorem s_isWritten (w : Int32) (h : zM) : zf nX12_isWritten [.inl w] h = some (if isW 9 3 w then 1 else 0, 0, h) := by
  rw [e_X12_isWritten, show (9 : Int32) = nI 9 from rfl, s_letters 9 (by decide), Option.bind_some]
  dsimp only
  unfold ltI isW
  by_cases c : w < 0
  · rw [if_pos c, if_pos c, if_pos (by decide), zb0]; rfl
  · rw [if_neg c, if_neg c]
    obtain ⟨r, hr, rfl⟩ := nI_of c
    rw [nI_clamp hr]
    cases hl : lf 11 9 r with
    | none => dsimp only; rw [if_pos (by decide), zb0]; rfl
    | some k =>
      dsimp only
      have hk := lf_le 11 9 r k hl
      rw [if_neg (nI_pos (by omega))]
      by_cases q : 3 < k
      · rw [if_pos (by rw [show (3 : Int32) = nI 3 from rfl, nI_ltI (by decide) (by omega)]; exact q), zb0, if_neg (by simpa using q)]
      · rw [if_neg (by rw [show (3 : Int32) = nI 3 from rfl, nI_ltI (by decide) (by omega)]; exact q), zb1, if_pos (by simpa using q)]
theorem s_mmachine_loop {m t : Nat} {n : Int32} (ht : t < 2) : ∀ (f q : Nat) (h : zM), 6 - q ≤ f → q ≤ 6 → MLay h m → ∃ h', zm_X12_machine 35 [some (.inr m), some (.inl (nI t)), some (.inl n), some (.inl (nI q))] [] h = some (1, 0, h') ∧ zFr (m + 2) (m + 4) h h' ∧ MLay h' m ∧ (∀ j, q ≤ j → j < 6 → zI h' (m + 2) (6 * t + j) = 0 ∧ zI h' (m + 3) (6 * t + j) = -1) ∧ ∀ i, ¬ (6 * t + q ≤ i ∧ i < 6 * t + 6) → zI h' (m + 2) i = zI h (m + 2) i ∧ zI h' (m + 3) i = zI h (m + 3) i := by
  intro f
  induction f with
  | zero =>
    intro q h hf hq l
    rw [e_X12_machine_35, if_neg (by rw [n6, nI_ltI (by omega) (by decide)]; omega), zb1]
    exact ⟨h, rfl, zFr.rf, l, fun j h1 h2 => by omega, fun i _ => ⟨rfl, rfl⟩⟩
  | succ f ih =>
    intro q h hf hq l
    rw [e_X12_machine_35]
    by_cases c : q < 6
    · rw [if_pos (by rw [n6, nI_ltI (by omega) (by decide)]; exact c), n6, pk_mul, nI_add, mF1 l, Option.bind_some, mw1 l (by omega) (Or.inl rfl), Option.bind_some, mF2 l.sI, Option.bind_some, mw2 l.sI (by omega), Option.bind_some, nI_1]
      obtain ⟨h', g1, g2, g3, g4, g5⟩ := ih (q + 1) (zsI (zsI h (m + 2) (6 * t + q) 0) (m + 3) (6 * t + q) (-1)) (by omega) (by omega) l
      refine ⟨h', g1, ((zFr_sI (by omega) (by omega)).tr (zFr_sI (by omega) (by omega))).tr g2, g3, fun j h1 h2 => ?_, fun i hi => ?_⟩
      · by_cases e : j = q
        · subst e
          obtain ⟨k1, k2⟩ := g5 (6 * t + j) (by omega)
          rw [k1, k2, zI_sI_a (by omega), zI_sI, zI_sI]
          exact ⟨rfl, rfl⟩
        · exact g4 j (by omega) h2
      · obtain ⟨k1, k2⟩ := g5 i (by omega)
        rw [k1, k2, zI_sI_a (by omega), zI_sI_k (by omega), zI_sI_k (by omega), zI_sI_a (by omega)]
        exact ⟨rfl, rfl⟩
    · rw [if_neg (by rw [n6, nI_ltI (by omega) (by decide)]; exact c), zb1]
      exact ⟨h, rfl, zFr.rf, l, fun j h1 h2 => by omega, fun i _ => ⟨rfl, rfl⟩⟩
theorem s_mmachine {h : zM} {m : Nat} {Ms : Nat → zMa} (d : MMs h m Ms) (hk : ∀ t, t < 2 → MaOk (Ms t)) (t n : Int32) : ∃ h', zf nX12_machine [.inr m, .inl t, .inl n] h = some ((aMachine Ms t n).1, 0, h') ∧ zFr (m + 1) (m + 9) h h' ∧ MMs h' m (aMachine Ms t n).2 := by
  rw [e_X12_machine, s_misMachine, Option.bind_some]
  unfold aMachine
  by_cases ct : isT t = true
  · obtain ⟨j, hj, rfl⟩ := isT_of ct
    simp only [ct, if_true, true_and]
    rw [if_neg (by decide)]
    by_cases c1 : n < 0
    · rw [if_pos c1, zb0, if_neg (fun z => z.1 c1)]
      exact ⟨h, rfl, zFr.rf, d⟩
    · rw [if_neg c1]
      by_cases c2 : 6 < n
      · rw [if_pos c2, zb0, if_neg (fun z => z.2 c2)]
        exact ⟨h, rfl, zFr.rf, d⟩
      · rw [if_neg c2, if_pos (show ¬ n < 0 ∧ ¬ 6 < n from ⟨c1, c2⟩), mF0 d.1, Option.bind_some, mw0 d.1 hj, Option.bind_some, mF3 d.1.sI, Option.bind_some, mw3 d.1.sI hj, Option.bind_some]
        obtain ⟨k, hk2, rfl⟩ := nI_of c1
        obtain ⟨h', g1, g2, g3, g4, g5⟩ := s_mmachine_loop (m := m) (n := nI k) hj 6 0 (zsI (zsI h (m + 1) j (nI k)) (m + 4) j 0) (by omega) (by omega) d.1
        rw [show (0 : Int32) = nI 0 from rfl] at g1 ⊢
        rw [g1, nI_clamp (by omega), nI_clamp (by omega)]
        refine ⟨h', rfl, ((zFr_sI (by omega) (by omega)).tr (zFr_sI (by omega) (by omega))).tr (g2.wide (by omega) (by omega)), d.put hj g3 ?_ ?_ (fun q hq => ?_) (fun i hi => absurd hi (Nat.not_lt_zero _)) (fun s hs hst => ?_) (fun s q hs hq hst => ?_) (fun s i hs hi hst => ?_) hk⟩
        · rw [g2.I (by omega), zI_sI_a (by omega), zI_sI]; rfl
        · rw [g2.I (by omega), zI_sI]; rfl
        · obtain ⟨k1, k2⟩ := g4 q (Nat.zero_le _) hq
          rw [k1, k2]
          exact ⟨by rw [show (newM k).2.1 = 0 from rfl, Nat.zero_testBit]; rfl, fun _ => rfl⟩
        · rw [g2.I (by omega), g2.I (by omega), zI_sI_a (by omega), zI_sI_k hst, zI_sI_k hst, zI_sI_a (by omega)]
          exact ⟨rfl, rfl⟩
        · obtain ⟨k1, k2⟩ := g5 (6 * s + q) (by omega)
          rw [k1, k2, zI_sI_a (by omega), zI_sI_a (by omega), zI_sI_a (by omega), zI_sI_a (by omega)]
          exact ⟨rfl, rfl⟩
        · rw [g2.I (by omega), g2.I (by omega), g2.I (by omega), g2.I (by omega)]
          rw [zI_sI_a (by omega), zI_sI_a (by omega), zI_sI_a (by omega), zI_sI_a (by omega), zI_sI_a (by omega), zI_sI_a (by omega), zI_sI_a (by omega), zI_sI_a (by omega)]
          exact ⟨rfl, rfl, rfl, rfl⟩
  · have cf : isT t = false := by simpa using ct
    simp only [cf]
    rw [if_pos (by decide), zb0, if_neg (fun z => by cases z.1)]
    exact ⟨h, rfl, zFr.rf, d⟩
theorem bit_off_t : ∀ B, B < 64 → ∀ q, q < 6 → ∀ r, r < 6 → (B - (B &&& 2 ^ q)).testBit r = (B.testBit r && decide (r ≠ q)) := by decide +kernel
theorem bit_or_t : ∀ B, B < 64 → ∀ q, q < 6 → ∀ r, r < 6 → (B ||| 2 ^ q).testBit r = (B.testBit r || decide (r = q)) := by decide +kernel
theorem s_mbegins {h : zM} {m : Nat} {Ms : Nat → zMa} (d : MMs h m Ms) (hk : ∀ t, t < 2 → MaOk (Ms t)) (t q is : Int32) (his : is = 0 ∨ is = 1) : ∃ h', zf nX12_begins [.inr m, .inl t, .inl q, .inl is] h = some ((aBegins Ms t q is).1, 0, h') ∧ zFr (m + 1) (m + 9) h h' ∧ MMs h' m (aBegins Ms t q is).2 := by
  rw [e_X12_begins, zif_ok d.1.1, s_misState d, Option.bind_some]
  unfold aBegins
  by_cases ct : isQ Ms t q = true
  · obtain ⟨j, k, hj, hk2, rfl, rfl⟩ := isQ_of hk ct
    have h6 := (hk j hj).1
    have h64 := (hk j hj).beg64
    simp only [ct, if_true]
    rw [if_neg (by decide), mF1 d.1, Option.bind_some, n6, pk_mul, nI_add, mw1 d.1 (by omega) his, Option.bind_some, zb1, nI_clamp (by omega), nI_clamp (by omega)]
    obtain ⟨a1, a2, a3, a4⟩ := d.2 j hj
    have f : zFr (m + 2) (m + 3) h (zsI h (m + 2) (6 * j + k) is) := zFr_sI (by omega) (by omega)
    refine ⟨_, rfl, f.wide (by omega) (by omega), d.put hj d.1 ?_ ?_ (fun q hq => ?_) (fun i hi => ?_) (fun s hs hst => ?_) (fun s q hs hq hst => ?_) (fun s i hs hi hst => ?_) hk⟩
    · rw [f.I (by omega)]; exact a1
    · rw [f.I (by omega)]; exact a2
    · refine ⟨?_, by rw [f.I (by omega)]; exact (a3 q hq).2⟩
      by_cases e : q = k
      · subst e
        rw [zI_sI]
        rcases his with r | r
        · subst r
          show _ = bI (((Ms j).2.1 - ((Ms j).2.1 &&& 2 ^ q)).testBit q)
          rw [bit_off_t _ h64 _ hq _ hq]
          simp [bI]
        · subst r
          show _ = bI (((Ms j).2.1 ||| 2 ^ q).testBit q)
          rw [bit_or_t _ h64 _ hq _ hq]
          simp [bI]
      · rw [zI_sI_k (by omega), (a3 q hq).1]
        rcases his with r | r
        · subst r
          show _ = bI (((Ms j).2.1 - ((Ms j).2.1 &&& 2 ^ k)).testBit q)
          rw [bit_off_t _ h64 _ (by omega) _ hq]
          simp [e]
        · subst r
          show _ = bI (((Ms j).2.1 ||| 2 ^ k).testBit q)
          rw [bit_or_t _ h64 _ (by omega) _ hq]
          simp [e]
    · rw [f.I (by omega), f.I (by omega), f.I (by omega), f.I (by omega)]; exact a4 i hi
    · rw [f.I (by omega), f.I (by omega)]; exact ⟨rfl, rfl⟩
    · rw [zI_sI_k (by omega), f.I (by omega)]; exact ⟨rfl, rfl⟩
    · rw [f.I (by omega), f.I (by omega), f.I (by omega), f.I (by omega)]; exact ⟨rfl, rfl, rfl, rfl⟩
  · have cf : isQ Ms t q = false := by simpa using ct
    simp only [cf]
    rw [if_pos (by decide), zb0]
    exact ⟨h, rfl, zFr.rf, d⟩
theorem s_mends {h : zM} {m : Nat} {Ms : Nat → zMa} (d : MMs h m Ms) (hk : ∀ t, t < 2 → MaOk (Ms t)) (t q w : Int32) : ∃ h', zf nX12_ends [.inr m, .inl t, .inl q, .inl w] h = some ((aEnds Ms t q w).1, 0, h') ∧ zFr (m + 1) (m + 9) h h' ∧ MMs h' m (aEnds Ms t q w).2 := by
  rw [e_X12_ends, zif_ok d.1.1, s_misState d, Option.bind_some]
  unfold aEnds
  by_cases ct : isQ Ms t q = true
  · obtain ⟨j, k, hj, hk2, rfl, rfl⟩ := isQ_of hk ct
    have h6 := (hk j hj).1
    simp only [ct, if_true, true_and]
    rw [if_neg (by decide)]
    obtain ⟨a1, a2, a3, a4⟩ := d.2 j hj
    have fin : eI (endO w) = w → ∃ h', ((zgF h m 12 2).bind fun r1 => (zis h r1 (((6 : Int32) * nI j) + nI k) w).bind fun h1 => zb 1 h1) = some (1, 0, h') ∧ zFr (m + 1) (m + 9) h h' ∧ MMs h' m (va_up Ms j (setE (Ms j) k (endO w))) := by
      intro hw
      rw [mF2 d.1, Option.bind_some, n6, pk_mul, nI_add, mw2 d.1 (by omega), Option.bind_some, zb1]
      have f : zFr (m + 3) (m + 4) h (zsI h (m + 3) (6 * j + k) w) := zFr_sI (by omega) (by omega)
      refine ⟨_, rfl, f.wide (by omega) (by omega), d.put hj d.1 ?_ ?_ (fun q hq => ?_) (fun i hi => ?_) (fun s hs hst => ?_) (fun s q hs hq hst => ?_) (fun s i hs hi hst => ?_) hk⟩
      · rw [f.I (by omega)]; exact a1
      · rw [f.I (by omega)]; exact a2
      · refine ⟨by rw [f.I (by omega)]; exact (a3 q hq).1, fun hqc => ?_⟩
        by_cases e : q = k
        · subst e
          rw [zI_sI]
          show w = eI (va_up (Ms j).2.2.1 q (endO w) q)
          rw [va_up_self, hw]
        · rw [zI_sI_k (by omega), (a3 q hq).2 hqc]
          show _ = eI (va_up (Ms j).2.2.1 k (endO w) q)
          rw [va_up_ne _ _ e]
      · rw [f.I (by omega), f.I (by omega), f.I (by omega), f.I (by omega)]; exact a4 i hi
      · rw [f.I (by omega), f.I (by omega)]; exact ⟨rfl, rfl⟩
      · rw [zI_sI_k (by omega), f.I (by omega)]; exact ⟨rfl, rfl⟩
      · rw [f.I (by omega), f.I (by omega), f.I (by omega), f.I (by omega)]; exact ⟨rfl, rfl, rfl, rfl⟩
    by_cases cw : w = -1
    · rw [if_pos cw, if_pos (Or.inl cw), nI_clamp (by omega), nI_clamp (by omega)]
      exact fin (by rw [cw]; rfl)
    · rw [if_neg cw, s_isWritten, Option.bind_some]
      by_cases cv : isW 9 3 w = true
      · obtain ⟨v, hv, rfl⟩ := isW_of cv
        have hv9 := hv.lt
        simp only [cv, if_true]
        rw [if_neg (by decide), if_pos (Or.inr trivial), nI_clamp (by omega), nI_clamp (by omega)]
        exact fin (by unfold endO; rw [if_neg cw, nI_clamp (by omega)]; rfl)
      · have cf : isW 9 3 w = false := by simpa using cv
        simp only [cf]
        rw [if_pos (by decide), zb0, if_neg (fun z => by rcases z with z | z; exact cw z; cases z)]
        exact ⟨h, rfl, zFr.rf, d⟩
  · have cf : isQ Ms t q = false := by simpa using ct
    simp only [cf]
    rw [if_pos (by decide), zb0, if_neg (fun z => by cases z.1)]
    exact ⟨h, rfl, zFr.rf, d⟩
