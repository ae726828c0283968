/-! The reference: size. -/
theorem use_lt {M : zMa} (k : MaOk M) : useB M < 2 ^ M.1 := by
  have key2 : ∀ (n i : Nat) (s : Nat × Nat), M.2.2.2.length - i ≤ n → s.1 < 2 ^ M.1 → ((M.2.2.2.drop i).foldl uArc s).1 < 2 ^ M.1 := by
    intro n
    induction n with
    | zero => intro i s hn a; rw [List.drop_of_length_le (by omega)]; exact a
    | succ n ih2 =>
      intro i s hn a
      by_cases c : i < M.2.2.2.length
      · rw [drop_arc c, List.foldl_cons]
        refine ih2 (i + 1) _ (by omega) ?_
        unfold uArc
        dsimp only
        split
        · exact bit_or_n M.1 k.1 _ a _ (k.at c).2.2.1
        · exact a
      · rw [List.drop_of_length_le (by omega)]; exact a
  have key : ∀ (t : Nat) (s : Nat × Nat), s.1 < 2 ^ M.1 → (uAll M.2.2.2 t s).1 < 2 ^ M.1 := by
    intro t
    induction t with
    | zero => intro s h; exact h
    | succ t ih =>
      intro s h
      have := key2 _ 0 s (Nat.le_refl _) h
      rw [List.drop_zero] at this
      exact ih _ this
  exact Nat.lt_of_le_of_lt Nat.and_le_left (key 6 _ k.2.1)
theorem cnt_pc : ∀ n, n ≤ 6 → ∀ B, B < 2 ^ n → ((List.range n).filter fun q => B.testBit q).length = pcB B := by decide +kernel
theorem s_msize_loop {h : zM} {m t : Nat} {w : Int32} {Ms : Nat → zMa} (d : MMs h m Ms) (hk : ∀ t, t < 2 → MaOk (Ms t)) (ht : t < 2) (hu : MUs h m t (Ms t)) : ∀ (f q c : Nat), (Ms t).1 - q ≤ f → q ≤ (Ms t).1 → c + f < 100 →
    zm_X12_size 60 [some (.inr m), some (.inl (nI t)), some (.inl w), some (.inl (nI c)), some (.inl (nI q))] [] h = some (nI (c + ((List.range' q ((Ms t).1 - q)).filter fun r => (useB (Ms t)).testBit r).length), 0, h) := by
  have k6 := (hk t ht).1
  intro f
  induction f with
  | zero =>
    intro q c hf hq hc
    rw [e_X12_size_60, mF0 d.1, Option.bind_some, d.many ht, Option.bind_some, if_neg (by rw [nI_ltI (by omega) (by omega)]; omega), show (Ms t).1 - q = 0 by omega]
    rfl
  | succ f ih =>
    intro q c hf hq hc
    rw [e_X12_size_60, mF0 d.1, Option.bind_some, d.many ht, Option.bind_some]
    by_cases c1 : q < (Ms t).1
    · rw [if_pos ((nI_ltI (by omega) (by omega)).mpr c1), mF8 d.1, Option.bind_some, n6, pk_mul, nI_add, mr8 d.1 (by omega), Option.bind_some, hu q (by omega), nI_1]
      have e1 : List.range' q ((Ms t).1 - q) = q :: List.range' (q + 1) ((Ms t).1 - (q + 1)) := by
        rw [show (Ms t).1 - q = ((Ms t).1 - (q + 1)) + 1 by omega, List.range'_succ]
      rw [e1, List.filter_cons]
      by_cases b : (useB (Ms t)).testBit q = true
      · rw [if_neg (by rw [bI_0, b]; decide), if_pos b, nI_1, ih (q + 1) (c + 1) (by omega) (by omega) (by omega), List.length_cons]
        rw [show ∀ n : Nat, c + 1 + n = c + (n + 1) from fun n => by omega]
      · have b' : (useB (Ms t)).testBit q = false := by simpa using b
        rw [if_pos (bI_0.mpr b'), if_neg b, show (nI c + 0 : Int32) = nI c by rw [show (0 : Int32) = nI 0 from rfl, nI_add, Nat.add_zero], ih (q + 1) c (by omega) (by omega) (by omega)]
    · rw [if_neg (by rw [nI_ltI (by omega) (by omega)]; exact c1), show (Ms t).1 - q = 0 by omega]
      rfl
theorem s_msize {h : zM} {m : Nat} {Ms : Nat → zMa} (d : MMs h m Ms) (hk : ∀ t, t < 2 → MaOk (Ms t)) (t w : Int32) : ∃ h', zf nX12_size [.inr m, .inl t, .inl w] h = some (aSize Ms t w, 0, h') ∧ zFr (m + 1) (m + 12) h h' ∧ MMs h' m Ms := by
  rw [e_X12_size, s_misMachine, Option.bind_some]
  unfold aSize
  by_cases ct : isT t = true
  · obtain ⟨j, hj, rfl⟩ := isT_of ct
    have k := hk j hj
    have e2 : (2 : Int32).toInt = 2 := by decide
    have e1 : (1 : Int32).toInt = 1 := by decide
    have e0 : (0 : Int32).toInt = 0 := by decide
    simp only [ct, if_true]
    rw [if_neg (by decide), nI_clamp (by omega)]
    by_cases c1 : w < 2
    · rw [if_pos c1]
      have n2 : ¬ w = 2 := fun z => by subst z; exact absurd c1 (by decide)
      by_cases c0 : w = 0
      · rw [if_pos c0, if_pos c0, mF0 d.1, Option.bind_some, d.many hj, Option.bind_some]
        exact ⟨h, rfl, zFr.rf, d⟩
      · rw [if_neg c0, if_neg c0]
        by_cases c2 : w = 1
        · rw [if_pos c2, if_pos c2, mF3 d.1, Option.bind_some, d.arcs hj, Option.bind_some]
          exact ⟨h, rfl, zFr.rf, d⟩
        · rw [if_neg c2, if_neg c2, if_neg n2]
          exact ⟨h, rfl, zFr.rf, d⟩
    · rw [if_neg c1]
      have n0 : ¬ w = 0 := fun z => by subst z; exact absurd (show (0 : Int32) < 2 by decide) c1
      have n1 : ¬ w = 1 := fun z => by subst z; exact absurd (show (1 : Int32) < 2 by decide) c1
      rw [if_neg n0, if_neg n1]
      by_cases c3 : 2 < w
      · have n2 : ¬ w = 2 := fun z => by subst z; exact absurd c3 (by decide)
        rw [if_pos c3, if_neg n2]
        exact ⟨h, rfl, zFr.rf, d⟩
      · have w2 : w = 2 := by
          apply Int32.toInt_inj.mp
          rw [Int32.lt_iff_toInt_lt] at c1 c3
          omega
        obtain ⟨h', g1, g2, g3, g4⟩ := s_muses d hk hj
        rw [if_neg c3, if_pos w2, zif_ok d.1.1, g1, Option.bind_some]
        dsimp only
        have := s_msize_loop (w := w) g3 hk hj g4 (Ms j).1 0 0 (by omega) (Nat.zero_le _) (by have := k.1; omega)
        rw [show (0 : Int32) = nI 0 from rfl, this, Nat.sub_zero, ← List.range_eq_range', cnt_pc _ k.1 _ (use_lt k), Nat.zero_add]
        exact ⟨h', rfl, g2.wide (by omega) (by omega), g3⟩
  · have cf : isT t = false := by simpa using ct
    simp only [cf]
    rw [if_pos (by decide)]
    exact ⟨h, rfl, zFr.rf, d⟩
