/-! The reference: useful states. -/
theorem bit_big : ∀ n, n ≤ 6 → ∀ B, B < 2 ^ n → ∀ q, q < 6 → n ≤ q → B.testBit q = false := by decide +kernel
theorem endB_bit {M : zMa} (k : MaOk M) {q : Nat} (hq : q < 6) : (endB M).testBit q = (M.2.2.1 q).isSome := by
  have k6 := k.1
  have key : ∀ (l : List Nat) (s : Nat), s < 64 → (∀ r ∈ l, r < 6) → (l.foldl (endF M) s).testBit q = (s.testBit q || (decide (q ∈ l) && (M.2.2.1 q).isSome)) ∧ l.foldl (endF M) s < 64 := by
    intro l
    induction l with
    | nil => intro s hs _; simp [hs]
    | cons r l ih =>
      intro s hs hl
      have hr := hl r List.mem_cons_self
      obtain ⟨i1, i2⟩ := ih (endF M s r) (endF_lt hs hr) (fun z hz => hl z (List.mem_cons_of_mem _ hz))
      rw [List.foldl_cons]
      refine ⟨?_, i2⟩
      rw [i1]
      unfold endF
      by_cases c : (M.2.2.1 r).isSome = true
      · rw [if_pos c, bit_or_t s hs r hr q hq]
        by_cases e : q = r
        · subst e
          simp [c]
        · simp [e]
      · rw [if_neg c]
        by_cases e : q = r
        · subst e
          have : (M.2.2.1 q).isSome = false := by simpa using c
          simp [this]
        · simp [e]
  have := (key (List.range M.1) 0 (by decide) (fun r hr => by have := List.mem_range.mp hr; omega)).1
  unfold endB
  rw [this, Nat.zero_testBit, Bool.false_or]
  by_cases c : q < M.1
  · simp [c]
  · cases hE : M.2.2.1 q with
    | none => simp
    | some w => exact absurd (k.2.2.1 q w hE).1 c
/-- two sets of states as the reference keeps them -/
def CB (h : zM) (m t : Nat) (s : Nat × Nat) : Prop := ∀ q, q < 6 → zI h (m + 10) (6 * t + q) = bI (s.1.testBit q) ∧ zI h (m + 11) (6 * t + q) = bI (s.2.testBit q)
theorem eI_ne {M : zMa} (k : MaOk M) {q : Nat} : eI (M.2.2.1 q) = -1 ↔ (M.2.2.1 q).isSome = false := by
  cases hE : M.2.2.1 q with
  | none => simp [eI]
  | some w =>
    have hw := (k.2.2.1 q w hE).2.lt
    constructor
    · intro z
      have z2 : nI w = -1 := z
      have := congrArg Int32.toInt z2
      rw [nI_toInt (by omega)] at this
      have e1 : (-1 : Int32).toInt = -1 := by decide
      omega
    · intro z
      simp at z
theorem s_muses_1 {m t : Nat} {Ms : Nat → zMa} (hk : ∀ t, t < 2 → MaOk (Ms t)) (ht : t < 2) : ∀ (f q : Nat) (h : zM), 6 - q ≤ f → q ≤ 6 → MMs h m Ms → (∀ j, j < q → zI h (m + 10) (6 * t + j) = bI ((Ms t).2.1.testBit j) ∧ zI h (m + 11) (6 * t + j) = bI ((endB (Ms t)).testBit j)) →
    ∃ h', zm_X12_uses 2 [some (.inr m), some (.inl (nI t)), some (.inl (nI q)), none] [] h = zm_X12_uses 97 [some (.inr m), some (.inl (nI t)), some (.inl (nI 0)), none] [] h' ∧ zFr (m + 9) (m + 12) h h' ∧ CB h' m t ((Ms t).2.1, endB (Ms t)) := by
  have k := hk t ht
  have k6 := k.1
  intro f
  induction f with
  | zero =>
    intro q h hf hq d hc
    rw [e_X12_uses_2, if_neg (by rw [n6, nI_ltI (by omega) (by decide)]; omega)]
    exact ⟨h, rfl, zFr.rf, fun j hj => hc j (by omega)⟩
  | succ f ih =>
    intro q h hf hq d hc
    rw [e_X12_uses_2]
    by_cases c : q < 6
    · rw [if_pos (by rw [n6, nI_ltI (by omega) (by decide)]; exact c), n6, pk_mul, nI_add, nI_1]
      have l := d.1
      have hi : 6 * t + q < 12 := by omega
      have g : ∀ b : Bool, MMs (zsI h (m + 10) (6 * t + q) (bI b)) m Ms := fun b => d.keep (zFr_sI (lo := m + 9) (hi := m + 12) (by omega) (by omega)) (by omega)
      have fin : ∀ b1 b2 : Bool, b1 = (Ms t).2.1.testBit q → b2 = (endB (Ms t)).testBit q → ∃ h', zm_X12_uses 2 [some (.inr m), some (.inl (nI t)), some (.inl (nI (q + 1))), none] [] (zsI (zsI h (m + 10) (6 * t + q) (bI b1)) (m + 11) (6 * t + q) (bI b2)) = zm_X12_uses 97 [some (.inr m), some (.inl (nI t)), some (.inl (nI 0)), none] [] h' ∧ zFr (m + 9) (m + 12) h h' ∧ CB h' m t ((Ms t).2.1, endB (Ms t)) := by
        intro b1 b2 hb1 hb2
        have f2 : zFr (m + 9) (m + 12) h (zsI (zsI h (m + 10) (6 * t + q) (bI b1)) (m + 11) (6 * t + q) (bI b2)) := (zFr_sI (by omega) (by omega)).tr (zFr_sI (by omega) (by omega))
        obtain ⟨h', g1, g2, g3⟩ := ih (q + 1) _ (by omega) (by omega) (d.keep f2 (by omega)) (fun j hj => by
          by_cases e : j = q
          · subst e
            rw [zI_sI_a (by omega), zI_sI, zI_sI, hb1, hb2]
            exact ⟨rfl, rfl⟩
          · rw [zI_sI_a (by omega), zI_sI_k (by omega), zI_sI_k (by omega), zI_sI_a (by omega)]
            exact hc j (by omega))
        exact ⟨h', g1, f2.tr g2, g3⟩
      -- the second half, behind what was kept of the first
      have half : ∀ b1 : Bool, b1 = (Ms t).2.1.testBit q → ∃ h', ((zgF (zsI h (m + 10) (6 * t + q) (bI b1)) m 12 10).bind fun r4 => (zgF (zsI h (m + 10) (6 * t + q) (bI b1)) m 12 0).bind fun r5 => (zia (zsI h (m + 10) (6 * t + q) (bI b1)) r5 (nI t)).bind fun v3 =>
          if nI q < v3 then (zgF (zsI h (m + 10) (6 * t + q) (bI b1)) m 12 2).bind fun r6 => (zia (zsI h (m + 10) (6 * t + q) (bI b1)) r6 (nI (6 * t + q))).bind fun v4 => if v4 = -1 then (zbs (zsI h (m + 10) (6 * t + q) (bI b1)) r4 (nI (6 * t + q)) 0).bind fun h2 => zm_X12_uses 2 [some (.inr m), some (.inl (nI t)), some (.inl (nI (q + 1))), none] [] h2 else (zbs (zsI h (m + 10) (6 * t + q) (bI b1)) r4 (nI (6 * t + q)) 1).bind fun h3 => zm_X12_uses 2 [some (.inr m), some (.inl (nI t)), some (.inl (nI (q + 1))), none] [] h3
          else (zbs (zsI h (m + 10) (6 * t + q) (bI b1)) r4 (nI (6 * t + q)) 0).bind fun h4 => zm_X12_uses 2 [some (.inr m), some (.inl (nI t)), some (.inl (nI (q + 1))), none] [] h4) = zm_X12_uses 97 [some (.inr m), some (.inl (nI t)), some (.inl (nI 0)), none] [] h' ∧ zFr (m + 9) (m + 12) h h' ∧ CB h' m t ((Ms t).2.1, endB (Ms t)) := by
        intro b1 hb1
        have d1 := g b1
        rw [mF10 d1.1, Option.bind_some, mF0 d1.1, Option.bind_some, d1.many ht, Option.bind_some]
        have w0 := mw10 d1.1 hi (x := 0) (Or.inl rfl)
        have w1 := mw10 d1.1 hi (x := 1) (Or.inr rfl)
        have hend := endB_bit k c
        by_cases c2 : q < (Ms t).1
        · rw [if_pos ((nI_ltI (by omega) (by omega)).mpr c2), mF2 d1.1, Option.bind_some, d1.ende ht c c2, Option.bind_some]
          by_cases c3 : eI ((Ms t).2.2.1 q) = -1
          · rw [if_pos c3, w0, Option.bind_some]
            exact fin b1 false hb1 (by rw [hend, (eI_ne k).mp c3])
          · rw [if_neg c3, w1, Option.bind_some]
            refine fin b1 true hb1 ?_
            rw [hend]
            cases hE : ((Ms t).2.2.1 q).isSome
            · exact absurd ((eI_ne k).mpr hE) c3
            · rfl
        · rw [if_neg (by rw [nI_ltI (by omega) (by omega)]; exact c2), w0, Option.bind_some]
          refine fin b1 false hb1 ?_
          rw [hend]
          cases hE : (Ms t).2.2.1 q with
          | none => rfl
          | some w => exact absurd (k.2.2.1 q w hE).1 c2
      rw [mF9 l, Option.bind_some, mF0 l, Option.bind_some, d.many ht, Option.bind_some]
      have w0 := mw9 l hi (x := 0) (Or.inl rfl)
      have w1 := mw9 l hi (x := 1) (Or.inr rfl)
      by_cases c2 : q < (Ms t).1
      · rw [if_pos ((nI_ltI (by omega) (by omega)).mpr c2), mF1 l, Option.bind_some, d.first ht c, Option.bind_some]
        by_cases c3 : (Ms t).2.1.testBit q = true
        · rw [if_neg (by rw [bI_0, c3]; decide), w1, Option.bind_some]
          exact half true c3.symm
        · have c3' : (Ms t).2.1.testBit q = false := by simpa using c3
          rw [if_pos (bI_0.mpr c3'), w0, Option.bind_some]
          exact half false c3'.symm
      · rw [if_neg (by rw [nI_ltI (by omega) (by omega)]; exact c2), w0, Option.bind_some]
        exact half false (bit_big _ k6 _ k.2.1 q c (by omega)).symm
    · rw [if_neg (by rw [n6, nI_ltI (by omega) (by decide)]; exact c)]
      exact ⟨h, rfl, zFr.rf, fun j hj => hc j (by omega)⟩
theorem CB.r9 {h : zM} {m t : Nat} {s : Nat × Nat} (l : MLay h m) (c : CB h m t s) (ht : t < 2) {q : Nat} (hq : q < 6) : zba h (m + 10) (nI (6 * t + q)) = some (bI (s.1.testBit q)) := (mr9 l (by omega)).trans (congrArg some (c q hq).1)
theorem CB.r10 {h : zM} {m t : Nat} {s : Nat × Nat} (l : MLay h m) (c : CB h m t s) (ht : t < 2) {q : Nat} (hq : q < 6) : zba h (m + 11) (nI (6 * t + q)) = some (bI (s.2.testBit q)) := (mr10 l (by omega)).trans (congrArg some (c q hq).2)
theorem CB.w9 {h : zM} {m t : Nat} {s : Nat × Nat} (c : CB h m t s) (h1 : s.1 < 64) {q : Nat} (hq : q < 6) : CB (zsI h (m + 10) (6 * t + q) 1) m t (s.1 ||| 2 ^ q, s.2) := by
  intro r hr
  refine ⟨?_, by rw [zI_sI_a (by omega)]; exact (c r hr).2⟩
  rw [bit_or_t s.1 h1 q hq r hr]
  by_cases e : r = q
  · subst e; rw [zI_sI]; simp [bI]
  · rw [zI_sI_k (by omega), (c r hr).1]; simp [e]
theorem CB.w10 {h : zM} {m t : Nat} {s : Nat × Nat} (c : CB h m t s) (h2 : s.2 < 64) {q : Nat} (hq : q < 6) : CB (zsI h (m + 11) (6 * t + q) 1) m t (s.1, s.2 ||| 2 ^ q) := by
  intro r hr
  rw [zI_sI_a (by omega)]
  refine ⟨(c r hr).1, ?_⟩
  rw [bit_or_t s.2 h2 q hq r hr]
  by_cases e : r = q
  · subst e; rw [zI_sI]; simp [bI]
  · rw [zI_sI_k (by omega), (c r hr).2]; simp [e]
theorem s_muses_2 {m t : Nat} {Ms : Nat → zMa} (hk : ∀ t, t < 2 → MaOk (Ms t)) (ht : t < 2) (rd : Int32) : ∀ (f i : Nat) (h : zM) (s : Nat × Nat), (Ms t).2.2.2.length - i ≤ f → i ≤ (Ms t).2.2.2.length → MMs h m Ms → CB h m t s → s.1 < 64 → s.2 < 64 →
    ∃ h', zm_X12_uses 108 [some (.inr m), some (.inl (nI t)), some (.inl rd), some (.inl (nI (30 * t + i)))] [] h = zm_X12_uses 97 [some (.inr m), some (.inl (nI t)), some (.inl (rd + 1)), none] [] h' ∧ zFr (m + 9) (m + 12) h h' ∧ CB h' m t (((Ms t).2.2.2.drop i).foldl uArc s) := by
  have k := hk t ht
  have k6 := k.1
  have k30 := k.2.2.2.1
  intro f
  induction f with
  | zero =>
    intro i h s hf hi d hc h1 h2
    rw [e_X12_uses_108, mF3 d.1, Option.bind_some, d.arcs ht, Option.bind_some, n30, pk_mul, nI_add, if_neg (by rw [nI_ltI (by omega) (by omega)]; omega), List.drop_of_length_le (by omega)]
    exact ⟨h, rfl, zFr.rf, hc⟩
  | succ f ih =>
    intro i h s hf hi d hc h1 h2
    by_cases c : i < (Ms t).2.2.2.length
    · have ka := k.at c
      have hlt := uArc_lt k c h1 h2
      rw [e_X12_uses_108, mF3 d.1, Option.bind_some, d.arcs ht, Option.bind_some, n30, pk_mul, nI_add, if_pos ((nI_ltI (by omega) (by omega)).mpr (by omega)), mF9 d.1, Option.bind_some, mF4 d.1, Option.bind_some, d.from ht k c, Option.bind_some, n6, pk_mul, nI_add, hc.r9 d.1 ht (by omega), Option.bind_some, nI_1, show 30 * t + i + 1 = 30 * t + (i + 1) by omega, drop_arc c, List.foldl_cons]
      generalize hp : (arcAt (Ms t) i).1 = p at *
      generalize hq : (arcAt (Ms t) i).2.2.1 = q at *
      have next : ∀ (h1 : zM) (s' : Nat × Nat), zFr (m + 9) (m + 12) h h1 → s' = uArc s (arcAt (Ms t) i) → CB h1 m t s' → ∃ h', zm_X12_uses 108 [some (.inr m), some (.inl (nI t)), some (.inl rd), some (.inl (nI (30 * t + (i + 1))))] [] h1 = zm_X12_uses 97 [some (.inr m), some (.inl (nI t)), some (.inl (rd + 1)), none] [] h' ∧ zFr (m + 9) (m + 12) h h' ∧ CB h' m t (((Ms t).2.2.2.drop (i + 1)).foldl uArc (uArc s (arcAt (Ms t) i))) := by
        intro h1 s' hf1 hs hcb
        subst hs
        obtain ⟨h', g1, g2, g3⟩ := ih (i + 1) h1 _ (by omega) (by omega) (d.keep hf1 (by omega)) hcb hlt.1 hlt.2
        exact ⟨h', g1, hf1.tr g2, g3⟩
      have hu : uArc s (arcAt (Ms t) i) = (if s.1.testBit p then s.1 ||| 2 ^ q else s.1, if s.2.testBit q then s.2 ||| 2 ^ p else s.2) := by unfold uArc; rw [hp, hq]
      -- the second half
      have half : ∀ (h1 : zM) (s1 : Nat), zFr (m + 9) (m + 12) h h1 → s1 = (if s.1.testBit p then s.1 ||| 2 ^ q else s.1) → CB h1 m t (s1, s.2) →
          ∃ h', ((zgF h1 m 12 10).bind fun r4 => (zgF h1 m 12 6).bind fun r5 => (zia h1 r5 (nI (30 * t + i))).bind fun v4 => (zba h1 r4 (nI (6 * t) + v4)).bind fun v5 => if v5 = 0 then zm_X12_uses 108 [some (.inr m), some (.inl (nI t)), some (.inl rd), some (.inl (nI (30 * t + (i + 1))))] [] h1 else (zgF h1 m 12 10).bind fun r6 => (zgF h1 m 12 4).bind fun r7 => (zia h1 r7 (nI (30 * t + i))).bind fun v6 => (zbs h1 r6 (nI (6 * t) + v6) 1).bind fun h2 => zm_X12_uses 108 [some (.inr m), some (.inl (nI t)), some (.inl rd), some (.inl (nI (30 * t + (i + 1))))] [] h2) = zm_X12_uses 97 [some (.inr m), some (.inl (nI t)), some (.inl (rd + 1)), none] [] h' ∧ zFr (m + 9) (m + 12) h h' ∧ CB h' m t (((Ms t).2.2.2.drop (i + 1)).foldl uArc (uArc s (arcAt (Ms t) i))) := by
        intro h1 s1 hf1 hs1 hcb
        have d1 := d.keep hf1 (by omega)
        rw [mF10 d1.1, Option.bind_some, mF6 d1.1, Option.bind_some, d1.to ht k c, hq, Option.bind_some, nI_add, hcb.r10 d1.1 ht (by omega), Option.bind_some]
        by_cases b2 : s.2.testBit q = true
        · rw [if_neg (by rw [bI_0]; simpa using b2)]
          simp only [Option.bind_some]
          rw [mF4 d1.1, Option.bind_some, d1.from ht k c, hp, Option.bind_some, nI_add, mw10 d1.1 (by omega) (Or.inr rfl), Option.bind_some]
          refine next _ (s1, s.2 ||| 2 ^ p) (hf1.tr (zFr_sI (by omega) (by omega))) ?_ (hcb.w10 h2 (by omega))
          rw [hu, ← hs1, if_pos b2]
        · have b2' : s.2.testBit q = false := by simpa using b2
          rw [if_pos (bI_0.mpr b2')]
          refine next h1 (s1, s.2) hf1 ?_ hcb
          rw [hu, ← hs1, if_neg b2]
      by_cases b1 : s.1.testBit p = true
      · rw [if_neg (by rw [bI_0, b1]; decide)]
        simp only [Option.bind_some]
        rw [mF6 d.1, Option.bind_some, d.to ht k c, hq, Option.bind_some, nI_add, mw9 d.1 (by omega) (Or.inr rfl), Option.bind_some]
        exact half _ (s.1 ||| 2 ^ q) (zFr_sI (by omega) (by omega)) (by rw [if_pos b1]) (hc.w9 h1 (by omega))
      · have b1' : s.1.testBit p = false := by simpa using b1
        rw [if_pos (bI_0.mpr b1')]
        have hh := half h s.1 zFr.rf (by rw [if_neg b1]) hc
        rw [mF4 d.1] at hh
        exact hh
    · rw [e_X12_uses_108, mF3 d.1, Option.bind_some, d.arcs ht, Option.bind_some, n30, pk_mul, nI_add, if_neg (by rw [nI_ltI (by omega) (by omega)]; omega), List.drop_of_length_le (by omega)]
      exact ⟨h, rfl, zFr.rf, hc⟩
theorem uAll_lt {M : zMa} (k : MaOk M) (s : Nat × Nat) (h1 : s.1 < 64) (h2 : s.2 < 64) : (M.2.2.2.foldl uArc s).1 < 64 ∧ (M.2.2.2.foldl uArc s).2 < 64 := by
  have key2 : ∀ (n i : Nat) (s : Nat × Nat), M.2.2.2.length - i ≤ n → s.1 < 64 → s.2 < 64 → ((M.2.2.2.drop i).foldl uArc s).1 < 64 ∧ ((M.2.2.2.drop i).foldl uArc s).2 < 64 := by
    intro n
    induction n with
    | zero => intro i s hn a b; rw [List.drop_of_length_le (by omega)]; exact ⟨a, b⟩
    | succ n ih2 =>
      intro i s hn a b
      by_cases c : i < M.2.2.2.length
      · rw [drop_arc c, List.foldl_cons]
        have := uArc_lt k c a b
        exact ih2 (i + 1) _ (by omega) this.1 this.2
      · rw [List.drop_of_length_le (by omega)]; exact ⟨a, b⟩
  have := key2 _ 0 s (Nat.le_refl _) h1 h2
  rw [List.drop_zero] at this
  exact this
theorem s_muses_3 {m t : Nat} {Ms : Nat → zMa} (hk : ∀ t, t < 2 → MaOk (Ms t)) (ht : t < 2) : ∀ (f r : Nat) (h : zM) (s : Nat × Nat), f + r = 6 → MMs h m Ms → CB h m t s → s.1 < 64 → s.2 < 64 →
    ∃ h', zm_X12_uses 97 [some (.inr m), some (.inl (nI t)), some (.inl (nI r)), none] [] h = zm_X12_uses 209 [some (.inr m), some (.inl (nI t)), some (.inl (nI 0)), none] [] h' ∧ zFr (m + 9) (m + 12) h h' ∧ CB h' m t (uAll (Ms t).2.2.2 f s) := by
  intro f
  induction f with
  | zero =>
    intro r h s hf d hc h1 h2
    rw [e_X12_uses_97, if_neg (by rw [n6, nI_ltI (by omega) (by decide)]; omega)]
    exact ⟨h, rfl, zFr.rf, hc⟩
  | succ f ih =>
    intro r h s hf d hc h1 h2
    rw [e_X12_uses_97, if_pos (by rw [n6, nI_ltI (by omega) (by decide)]; omega), n30, pk_mul]
    obtain ⟨h', g1, g2, g3⟩ := s_muses_2 hk ht (nI r) _ 0 h s (Nat.le_refl _) (Nat.zero_le _) d hc h1 h2
    rw [Nat.add_zero] at g1
    rw [g1, nI_1]
    rw [List.drop_zero] at g3
    have hlt := uAll_lt (hk t ht) s h1 h2
    obtain ⟨h2', k1, k2, k3⟩ := ih (r + 1) h' _ (by omega) (d.keep g2 (by omega)) g3 hlt.1 hlt.2
    exact ⟨h2', k1, g2.tr k2, k3⟩
theorem s_muses_4 {m t : Nat} (ht : t < 2) {s : Nat × Nat} : ∀ (f q : Nat) (h : zM), 6 - q ≤ f → q ≤ 6 → MLay h m → CB h m t s → (∀ j, j < q → zI h (m + 9) (6 * t + j) = bI (s.1.testBit j && s.2.testBit j)) →
    ∃ h', zm_X12_uses 209 [some (.inr m), some (.inl (nI t)), some (.inl (nI q)), none] [] h = some (0, 0, h') ∧ zFr (m + 9) (m + 12) h h' ∧ ∀ j, j < 6 → zI h' (m + 9) (6 * t + j) = bI (s.1.testBit j && s.2.testBit j) := by
  intro f
  induction f with
  | zero =>
    intro q h hf hq l hc hd
    rw [e_X12_uses_209, if_neg (by rw [n6, nI_ltI (by omega) (by decide)]; omega)]
    exact ⟨h, rfl, zFr.rf, fun j hj => hd j (by omega)⟩
  | succ f ih =>
    intro q h hf hq l hc hd
    rw [e_X12_uses_209]
    by_cases c : q < 6
    · rw [if_pos (by rw [n6, nI_ltI (by omega) (by decide)]; exact c), n6, pk_mul, nI_add, nI_1, mF8 l, Option.bind_some, mF9 l, Option.bind_some, hc.r9 l ht c, Option.bind_some]
      have fin : ∀ b : Bool, b = (s.1.testBit q && s.2.testBit q) → ∃ h', zm_X12_uses 209 [some (.inr m), some (.inl (nI t)), some (.inl (nI (q + 1))), none] [] (zsI h (m + 9) (6 * t + q) (bI b)) = some (0, 0, h') ∧ zFr (m + 9) (m + 12) h h' ∧ ∀ j, j < 6 → zI h' (m + 9) (6 * t + j) = bI (s.1.testBit j && s.2.testBit j) := by
        intro b hb
        have f1 : zFr (m + 9) (m + 12) h (zsI h (m + 9) (6 * t + q) (bI b)) := zFr_sI (by omega) (by omega)
        obtain ⟨h', g1, g2, g3⟩ := ih (q + 1) _ (by omega) (by omega) (show MLay (zsI h (m + 9) (6 * t + q) (bI b)) m from l) (fun r hr => by rw [zI_sI_a (by omega), zI_sI_a (by omega)]; exact hc r hr) (fun j hj => by
          by_cases e : j = q
          · subst e; rw [zI_sI, hb]
          · rw [zI_sI_k (by omega)]; exact hd j (by omega))
        exact ⟨h', g1, f1.tr g2, g3⟩
      by_cases b1 : s.1.testBit q = true
      · rw [if_neg (by rw [bI_0, b1]; decide), mF10 l, Option.bind_some, hc.r10 l ht c, Option.bind_some]
        by_cases b2 : s.2.testBit q = true
        · rw [if_neg (by rw [bI_0, b2]; decide), mw8 l (by omega) (Or.inr rfl), Option.bind_some]
          exact fin true (by rw [b1, b2]; rfl)
        · have b2' : s.2.testBit q = false := by simpa using b2
          rw [if_pos (bI_0.mpr b2'), mw8 l (by omega) (Or.inl rfl), Option.bind_some]
          exact fin false (by rw [b2', Bool.and_false])
      · have b1' : s.1.testBit q = false := by simpa using b1
        rw [if_pos (bI_0.mpr b1'), mw8 l (by omega) (Or.inl rfl), Option.bind_some]
        exact fin false (by rw [b1', Bool.false_and])
    · rw [if_neg (by rw [n6, nI_ltI (by omega) (by decide)]; exact c)]
      exact ⟨h, rfl, zFr.rf, fun j hj => hd j (by omega)⟩
/-- behind uses(t): isUsed holds the useful states -/
def MUs (h : zM) (m t : Nat) (M : zMa) : Prop := ∀ q, q < 6 → zI h (m + 9) (6 * t + q) = bI ((useB M).testBit q)
theorem s_muses {h : zM} {m t : Nat} {Ms : Nat → zMa} (d : MMs h m Ms) (hk : ∀ t, t < 2 → MaOk (Ms t)) (ht : t < 2) : ∃ h', zf nX12_uses [.inr m, .inl (nI t)] h = some (0, 0, h') ∧ zFr (m + 9) (m + 12) h h' ∧ MMs h' m Ms ∧ MUs h' m t (Ms t) := by
  have k := hk t ht
  rw [e_X12_uses]
  obtain ⟨h1, a1, a2, a3⟩ := s_muses_1 hk ht 6 0 h (by omega) (Nat.zero_le _) d (fun j hj => absurd hj (Nat.not_lt_zero _))
  have d1 := d.keep a2 (by omega)
  obtain ⟨h2, b1, b2, b3⟩ := s_muses_3 hk ht 6 0 h1 _ rfl d1 a3 k.beg64 (endB_lt k)
  have d2 := d1.keep b2 (by omega)
  obtain ⟨h3, c1, c2, c3⟩ := s_muses_4 ht 6 0 h2 (by omega) (Nat.zero_le _) d2.1 b3 (fun j hj => absurd hj (Nat.not_lt_zero _))
  rw [show (0 : Int32) = nI 0 from rfl, a1, b1, c1]
  refine ⟨h3, rfl, (a2.tr b2).tr c2, d2.keep c2 (by omega), fun q hq => ?_⟩
  rw [c3 q hq]
  unfold useB
  rw [Nat.testBit_and]
theorem s_museful {h : zM} {m : Nat} {Ms : Nat → zMa} (d : MMs h m Ms) (hk : ∀ t, t < 2 → MaOk (Ms t)) (t q : Int32) : ∃ h', zf nX12_useful [.inr m, .inl t, .inl q] h = some (aUseful Ms t q, 0, h') ∧ zFr (m + 1) (m + 12) h h' ∧ MMs h' m Ms := by
  rw [e_X12_useful, zif_ok d.1.1, s_misState d, Option.bind_some]
  unfold aUseful
  by_cases ct : isQ Ms t q = true
  · obtain ⟨j, k, hj, hk2, rfl, rfl⟩ := isQ_of hk ct
    have h6 := (hk j hj).1
    simp only [ct, if_true]
    obtain ⟨h', g1, g2, g3, g4⟩ := s_muses d hk hj
    rw [if_neg (by decide), zif_ok d.1.1, g1, Option.bind_some]
    dsimp only
    rw [mF8 g3.1, Option.bind_some, n6, pk_mul, nI_add, mr8 g3.1 (by omega), Option.bind_some, g4 k (by omega), nI_clamp (by omega), nI_clamp (by omega)]
    refine ⟨h', ?_, g2.wide (by omega) (by omega), g3⟩
    by_cases b : (useB (Ms j)).testBit k = true
    · rw [if_neg (by rw [bI_0, b]; decide), if_pos b]
    · rw [if_pos (by rw [bI_0]; simpa using b), if_neg b]
  · have cf : isQ Ms t q = false := by simpa using ct
    simp only [cf]
    rw [if_pos (by decide)]
    exact ⟨h, rfl, zFr.rf, d⟩
