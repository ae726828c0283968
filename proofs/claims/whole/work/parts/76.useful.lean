/-! Useful states: what goes on from one, and that it ends soon. -/
def orF (g : zArc → Nat × Nat) (s : Nat) (a : zArc) : Nat := if s.testBit (g a).1 then s ||| 2 ^ (g a).2 else s
def orR (g : zArc → Nat × Nat) (l : List zArc) : Nat → Nat → Nat
  | 0, s => s
  | k + 1, s => l.foldl (orF g) (orR g l k s)
abbrev gFw : zArc → Nat × Nat := fun a => (a.1, a.2.2.1)
abbrev gBw : zArc → Nat × Nat := fun a => (a.2.2.1, a.1)
theorem uFold_1 : ∀ (l : List zArc) (s : Nat × Nat), l.foldl uArc s = (l.foldl (orF gFw) s.1, l.foldl (orF gBw) s.2)
  | [], s => rfl
  | a :: l, s => by rw [List.foldl_cons, uFold_1 l]; rfl
theorem orR_s (g : zArc → Nat × Nat) (l : List zArc) : ∀ (k s : Nat), orR g l k (l.foldl (orF g) s) = orR g l (k + 1) s
  | 0, s => rfl
  | k + 1, s => by rw [orR, orR_s g l k s]; rfl
theorem uAll_or (l : List zArc) : ∀ (k : Nat) (s : Nat × Nat), uAll l k s = (orR gFw l k s.1, orR gBw l k s.2)
  | 0, s => rfl
  | k + 1, s => by
    rw [uAll, uAll_or l k, uFold_1, orR_s, orR_s]
theorem useB_or (M : zMa) : useB M = orR gFw M.2.2.2 6 M.2.1 &&& orR gBw M.2.2.2 6 (endB M) := by unfold useB; rw [uAll_or]
theorem orF_bit {g : zArc → Nat × Nat} {s q : Nat} {a : zArc} (h : s.testBit q = true) : (orF g s a).testBit q = true := by
  unfold orF
  split
  · rw [Nat.testBit_or, h]; rfl
  · exact h
theorem orFo_bit {g : zArc → Nat × Nat} {q : Nat} : ∀ (l : List zArc) {s : Nat}, s.testBit q = true → (l.foldl (orF g) s).testBit q = true
  | [], s, h => h
  | a :: l, s, h => orFo_bit l (orF_bit h)
theorem orFo_to {g : zArc → Nat × Nat} {a : zArc} : ∀ (l : List zArc) {s : Nat}, a ∈ l → s.testBit (g a).1 = true → (l.foldl (orF g) s).testBit (g a).2 = true
  | [], s, h, _ => by cases h
  | b :: l, s, h, hs => by
    rw [List.foldl_cons]
    rcases List.mem_cons.mp h with e | e
    · subst e
      refine orFo_bit l ?_
      unfold orF
      rw [if_pos hs, Nat.testBit_or, Nat.testBit_two_pow_self, Bool.or_true]
    · exact orFo_to l e (orF_bit hs)
theorem orR_bit {g : zArc → Nat × Nat} {l : List zArc} {q s : Nat} (h : s.testBit q = true) : ∀ k, (orR g l k s).testBit q = true
  | 0 => h
  | k + 1 => orFo_bit l (orR_bit h k)
theorem orFo_64 {g : zArc → Nat × Nat} : ∀ (l : List zArc) {s : Nat}, (∀ a ∈ l, (g a).2 < 6) → s < 64 → l.foldl (orF g) s < 64
  | [], s, _, h => h
  | a :: l, s, hl, h => orFo_64 l (fun b hb => hl b (List.mem_cons_of_mem _ hb)) (by
    unfold orF
    split
    · exact bit_or_lt _ h _ (hl a List.mem_cons_self)
    · exact h)
theorem orR_64 {g : zArc → Nat × Nat} {l : List zArc} {s : Nat} (hl : ∀ a ∈ l, (g a).2 < 6) (h : s < 64) : ∀ k, orR g l k s < 64
  | 0 => h
  | k + 1 => orFo_64 l hl (orR_64 hl h k)
theorem bits_64 {x y : Nat} (hx : x < 64) (hy : y < 64) (h : ∀ q, q < 6 → x.testBit q = y.testBit q) : x = y := by
  refine Nat.eq_of_testBit_eq (fun i => ?_)
  by_cases c : i < 6
  · exact h i c
  · rw [Nat.testBit_lt_two_pow (Nat.lt_of_lt_of_le (show x < 2 ^ 6 from hx) (Nat.pow_le_pow_right (by decide) (by omega))), Nat.testBit_lt_two_pow (Nat.lt_of_lt_of_le (show y < 2 ^ 6 from hy) (Nat.pow_le_pow_right (by decide) (by omega)))]
/-- six rounds are enough -/
theorem orR_closed {g : zArc → Nat × Nat} {l : List zArc} {s : Nat} (hl : ∀ a ∈ l, (g a).2 < 6) (h : s < 64) {a : zArc} (ha : a ∈ l) (hb : (orR g l 6 s).testBit (g a).1 = true) : (orR g l 6 s).testBit (g a).2 = true := by
  have c := chain (N := 6) (fun k q => (orR g l k s).testBit q) (fun k x _ q => orFo_bit l q) (fun k e x hx => by
    have : orR g l k s = orR g l (k + 1) s := bits_64 (orR_64 hl h _) (orR_64 hl h _) e
    show (l.foldl (orF g) (orR g l k s)).testBit x = (l.foldl (orF g) (orR g l (k + 1) s)).testBit x
    rw [← this]) 6 (by omega) (g a).2 (hl a ha)
  have c : (orR g l 6 s).testBit (g a).2 = (l.foldl (orF g) (orR g l 6 s)).testBit (g a).2 := c
  rw [c]
  exact orFo_to l ha hb
def isU (M : zMa) (q : Nat) : Bool := (useB M).testBit q
theorem isU_iff {M : zMa} {q : Nat} : isU M q = true ↔ (orR gFw M.2.2.2 6 M.2.1).testBit q = true ∧ (orR gBw M.2.2.2 6 (endB M)).testBit q = true := by
  unfold isU
  rw [useB_or, Nat.testBit_and, Bool.and_eq_true]
theorem isU_lt {M : zMa} (k : MaOk M) {q : Nat} (h : isU M q = true) : q < M.1 := by
  rcases Nat.lt_or_ge q M.1 with c | c
  · exact c
  · unfold isU at h
    rw [Nat.testBit_lt_two_pow (Nat.lt_of_lt_of_le (use_lt k) (Nat.pow_le_pow_right (by decide) c))] at h
    cases h
/-- what leads out -/
def isL (M : zMa) (q : Nat) : Prop := ∃ w y, wayO M w q y
theorem isL_of {M : zMa} (k : MaOk M) {q : Nat} (hq : q < 6) (h : (orR gBw M.2.2.2 6 (endB M)).testBit q = true) : isL M q := by
  have k6 := k.1
  have main : ∀ n, ∀ q, q < 6 → (orR gBw M.2.2.2 n (endB M)).testBit q = true → isL M q := by
    intro n
    induction n with
    | zero =>
      intro q hq h
      have h : (endB M).testBit q = true := h
      rw [endB_bit k hq] at h
      cases e : M.2.2.1 q with
      | none => rw [e] at h; cases h
      | some w => exact ⟨[], dgs w, w, e, rfl⟩
    | succ n ih =>
      have fo : ∀ (l : List zArc) (s : Nat), (∀ a ∈ l, a ∈ M.2.2.2) → (∀ q, q < 6 → s.testBit q = true → isL M q) → ∀ q, q < 6 → (l.foldl (orF gBw) s).testBit q = true → isL M q := by
        intro l
        induction l with
        | nil => intro s _ hs q hq h; exact hs q hq h
        | cons a l ih2 =>
          intro s hl hs q hq h
          refine ih2 (orF gBw s a) (fun b hb => hl b (List.mem_cons_of_mem _ hb)) (fun q hq hb => ?_) q hq h
          have ha := hl a List.mem_cons_self
          have ka := k.2.2.2.2 a ha
          unfold orF at hb
          split at hb
          · rename_i c
            rw [Nat.testBit_or, Bool.or_eq_true, Nat.testBit_two_pow, decide_eq_true_eq] at hb
            rcases hb with hb | hb
            · exact hs q hq hb
            · obtain ⟨w, y, hw⟩ := hs a.2.2.1 (by omega) c
              have hb : a.1 = q := hb
              exact ⟨a.2.1 :: w, dgs a.2.2.2 ++ y, a, ha, hb, rfl, y, hw, rfl⟩
          · exact hs q hq hb
      intro q hq h
      exact fo M.2.2.2 _ (fun a h => h) ih q hq h
  exact main 6 q hq h
noncomputable def levS (M : zMa) (k q : Nat) : Bool := @decide (∃ w y, w.length ≤ k ∧ wayO M w q y) (Classical.propDecidable _)
theorem levS_iff {M : zMa} {k q : Nat} : levS M k q = true ↔ ∃ w y, w.length ≤ k ∧ wayO M w q y := by
  unfold levS
  exact @decide_eq_true_iff _ (Classical.propDecidable _)
/-- with six letters, if at all -/
theorem isL_6 {M : zMa} (k : MaOk M) {q : Nat} (hq : q < 6) (h : isL M q) : ∃ w y, w.length ≤ 6 ∧ wayO M w q y := by
  have k6 := k.1
  have still : ∀ n, 6 ≤ n → ∀ x, x < 6 → levS M n x = levS M (n + 1) x := fun n hn => chain (levS M) (fun n x _ h => by
    obtain ⟨w, y, h1, h2⟩ := levS_iff.mp h
    exact levS_iff.mpr ⟨w, y, by omega, h2⟩) (fun n e x hx => by
      cases h1 : levS M (n + 1) x with
      | true =>
        obtain ⟨w, y, a, b⟩ := levS_iff.mp h1
        exact (levS_iff.mpr ⟨w, y, by omega, b⟩).symm
      | false =>
        cases h2 : levS M (n + 2) x with
        | false => rfl
        | true =>
          exfalso
          obtain ⟨w, y, a, b⟩ := levS_iff.mp h2
          have : levS M (n + 1) x = true := by
            cases w with
            | nil => exact levS_iff.mpr ⟨[], y, Nat.zero_le _, b⟩
            | cons l w =>
              obtain ⟨c, hc, c1, c2, y', hy, e2⟩ := b
              have kc := k.2.2.2.2 c hc
              have : levS M (n + 1) c.2.2.1 = true := levS_iff.mpr ⟨w, y', by simp at a; omega, hy⟩
              rw [← e _ (by omega)] at this
              obtain ⟨w2, y2, d1, d2⟩ := levS_iff.mp this
              exact levS_iff.mpr ⟨l :: w2, dgs c.2.2.2 ++ y2, by simp; omega, c, hc, c1, c2, y2, d2, rfl⟩
          rw [h1] at this
          cases this) n (by omega)
  have up : ∀ d, levS M 6 q = levS M (6 + d) q := by
    intro d
    induction d with
    | zero => rfl
    | succ d ih => rw [ih, still (6 + d) (by omega) q hq]; rfl
  obtain ⟨w, y, hw⟩ := h
  have : levS M (6 + w.length) q = true := levS_iff.mpr ⟨w, y, by omega, hw⟩
  rw [← up] at this
  exact levS_iff.mp this
theorem isU_out {M : zMa} (k : MaOk M) {q : Nat} (h : isU M q = true) : ∃ w y, w.length ≤ 6 ∧ wayO M w q y := by
  have := isU_lt k h
  have := k.1
  exact isL_6 k (by omega) (isL_of k (by omega) (isU_iff.mp h).2)
/-- from a useful state, an arc to one that leads out leads to a useful one -/
theorem isU_arc {M : zMa} (k : MaOk M) {a : zArc} (ha : a ∈ M.2.2.2) (h : isU M a.1 = true) {w : List Nat} {y : zWo} (hw : wayO M w a.2.2.1 y) : isU M a.2.2.1 = true := by
  have k6 := k.1
  have g1 : ∀ a ∈ M.2.2.2, (gFw a).2 < 6 := fun a ha => by have := k.2.2.2.2 a ha; show a.2.2.1 < 6; omega
  have g2 : ∀ a ∈ M.2.2.2, (gBw a).2 < 6 := fun a ha => by have := k.2.2.2.2 a ha; show a.1 < 6; omega
  have lead : ∀ (w : List Nat) (q : Nat) (y : zWo), q < 6 → wayO M w q y → (orR gBw M.2.2.2 6 (endB M)).testBit q = true := by
    intro w
    induction w with
    | nil =>
      rintro q y hq ⟨e, he, _⟩
      refine orR_bit ?_ 6
      rw [endB_bit k hq, he]
      rfl
    | cons l w ih =>
      rintro q y hq ⟨c, hc, c1, c2, y', hy, e2⟩
      have kc := k.2.2.2.2 c hc
      have := orR_closed g2 (endB_lt k) hc (ih c.2.2.1 y' (by omega) hy)
      rw [← c1]
      exact this
  have ka := k.2.2.2.2 a ha
  refine isU_iff.mpr ⟨orR_closed g1 k.beg64 ha (isU_iff.mp h).1, lead w _ y (by omega) hw⟩
