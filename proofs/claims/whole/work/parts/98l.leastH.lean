/-! The class Least: take. -/
/-- it is a machine as it may be told -/
def fitZ (Z : zLz) : Prop := Z.1 ≤ 6 ∧ Z.2.1 = [] ∧ ∀ q, q < Z.1 → (∀ v, Z.2.2.1 q = some v → v.length ≤ 3) ∧ ∀ j, j < 3 → ∀ p, Z.2.2.2 (3 * q + j) = some p → p.1.length ≤ 3
def numW (w : zWo) : Nat := (wnum w).toNatClampNeg
theorem wnum_app (w : zWo) (x : Int32) : wnum (w ++ [x]) = wnum w * 10 + x := by
  unfold wnum
  rw [List.foldl_append]
  rfl
theorem lf_app : ∀ (f x d : Nat), 1 ≤ d → d ≤ 9 → lf (f + 1) 9 (10 * x + d) = (lf f 9 x).map (· + 1) := fun f x d h1 h2 => by
  show (if 10 * x + d = 0 then some 0 else if (10 * x + d) % 10 < 1 ∨ 9 < (10 * x + d) % 10 then none else (lf f 9 ((10 * x + d) / 10)).map (· + 1)) = _
  rw [if_neg (by omega), if_neg (by omega), show (10 * x + d) / 10 = x by omega]
theorem numW_ok : ∀ {w : zWo}, LOk w → w.length ≤ 3 → wnum w = nI (numW w) ∧ wOk (numW w) := by
  have key : ∀ (n : Nat) (w : zWo), n ≤ 3 → w.length = n → LOk w → ∃ k, wnum w = nI k ∧ k < 10 ^ n ∧ ∀ f, n ≤ f → lf f 9 k = some n := by
    intro n
    induction n with
    | zero =>
      intro w _ hw _
      rw [List.length_eq_zero_iff.mp hw]
      exact ⟨0, rfl, by decide, fun f _ => by cases f <;> rfl⟩
    | succ n ih =>
      intro w hn hw hl
      obtain ⟨v, x, rfl⟩ : ∃ v x, w = v ++ [x] := by
        refine ⟨w.dropLast, w.getLast (by intro e; rw [e] at hw; cases hw), ?_⟩
        rw [List.dropLast_concat_getLast]
      rw [List.length_append, List.length_singleton] at hw
      obtain ⟨k, k1, k2, k3⟩ := ih v (by omega) (by omega) (fun x hx => hl x (List.mem_append_left _ hx))
      obtain ⟨d, d1, d2, rfl⟩ := hl x (by simp)
      have hp : 10 ^ n ≤ 10 ^ 2 := Nat.pow_le_pow_right (by omega) (by omega)
      have hp2 : 10 ^ (n + 1) = 10 * 10 ^ n := by rw [Nat.pow_succ, Nat.mul_comm]
      refine ⟨10 * k + d, ?_, by omega, fun f hf => ?_⟩
      · rw [wnum_app, k1, n10, pk_mul, nI_add, Nat.mul_comm]
      · obtain ⟨f', rfl⟩ : ∃ f', f = f' + 1 := ⟨f - 1, by omega⟩
        rw [lf_app f' k d d1 d2, k3 f' (by omega)]
        rfl
  intro w hl h3
  obtain ⟨k, k1, k2, k3⟩ := key w.length w h3 rfl hl
  have hp : 10 ^ w.length ≤ 10 ^ 3 := Nat.pow_le_pow_right (by omega) h3
  have e : numW w = k := by unfold numW; rw [k1, nI_clamp (by omega)]
  rw [e]
  exact ⟨k1, w.length, h3, k3 11 (by omega), by omega⟩
/-- its arcs in their order -/
def tkA (Z : zLz) (n : Nat) : List zArc := (List.range n).filterMap fun i => (Z.2.2.2 i).map fun p => (i / 3, i % 3 + 1, p.2, numW p.1)
/-- as far as q states are told -/
def tkQ (Z : zLz) (q n : Nat) : zMa := (Z.1, if 0 < q then 1 else 0, fun r => if r < q then (Z.2.2.1 r).map numW else none, tkA Z n)
def tkM (Z : zLz) : zMa := tkQ Z Z.1 (3 * Z.1)
theorem tkA_s (Z : zLz) (n : Nat) : tkA Z (n + 1) = tkA Z n ++ (match Z.2.2.2 n with
    | none => []
    | some p => [(n / 3, n % 3 + 1, p.2, numW p.1)]) := by
  unfold tkA
  rw [List.range_succ, List.filterMap_append]
  refine congrArg _ ?_
  cases e : Z.2.2.2 n <;> simp [e]
theorem tkA_len (Z : zLz) : ∀ n, (tkA Z n).length ≤ n
  | 0 => Nat.le_refl _
  | n + 1 => by
    have := tkA_len Z n
    rw [tkA_s, List.length_append]
    cases Z.2.2.2 n <;> simp <;> omega
theorem tkA_mem {Z : zLz} {n : Nat} {a : zArc} (h : a ∈ tkA Z n) : ∃ i p, i < n ∧ Z.2.2.2 i = some p ∧ a = (i / 3, i % 3 + 1, p.2, numW p.1) := by
  unfold tkA at h
  rw [List.mem_filterMap] at h
  obtain ⟨i, hi, e⟩ := h
  cases e2 : Z.2.2.2 i with
  | none => rw [e2] at e; cases e
  | some p =>
    rw [e2] at e
    exact ⟨i, p, List.mem_range.mp hi, e2, (Option.some.inj e).symm⟩
/-- letters as they may be -/
def zOk (Z : zLz) : Prop := (∀ q v, q < Z.1 → Z.2.2.1 q = some v → LOk v) ∧ ∀ i p, i < 3 * Z.1 → Z.2.2.2 i = some p → LOk p.1 ∧ p.2 < Z.1
theorem tkQ_ok {Z : zLz} (z : zOk Z) (f : fitZ Z) {q n : Nat} (hq : q ≤ Z.1) (hn : n ≤ 3 * Z.1) : MaOk (tkQ Z q n) := by
  have hZ := f.1
  refine ⟨hZ, ?_, fun r w h => ?_, ?_, fun a ha => ?_⟩
  · show (if 0 < q then 1 else 0) < 2 ^ Z.1
    by_cases c : 0 < q
    · rw [if_pos c]
      exact Nat.one_lt_two_pow (by omega)
    · rw [if_neg c]
      exact Nat.two_pow_pos _
  · have h : (if r < q then (Z.2.2.1 r).map numW else none) = some w := h
    by_cases c : r < q
    · rw [if_pos c] at h
      cases e : Z.2.2.1 r with
      | none => rw [e] at h; cases h
      | some v =>
        rw [e] at h
        cases h
        exact ⟨by show r < Z.1; omega, (numW_ok (z.1 r v (by omega) e) ((f.2.2 r (by omega)).1 v e)).2⟩
    · rw [if_neg c] at h
      cases h
  · have := tkA_len Z n
    show (tkA Z n).length ≤ 30
    omega
  · obtain ⟨i, p, hi, e, rfl⟩ := tkA_mem ha
    have h1 := z.2 i p (by omega) e
    have h2 := (f.2.2 (i / 3) (by omega)).2 (i % 3) (by omega) p (by rw [show 3 * (i / 3) + i % 3 = i by omega]; exact e)
    exact ⟨by show i / 3 < Z.1; omega, ⟨by show 1 ≤ i % 3 + 1; omega, by show i % 3 + 1 ≤ 3; omega⟩, h1.2, (numW_ok h1.1 h2).2⟩
theorem tkM_ok {Z : zLz} (z : zOk Z) (f : fitZ Z) : MaOk (tkM Z) := tkQ_ok z f (Nat.le_refl _) (Nat.le_refl _)
section LTK
variable {h h' : zM} {x y : Nat} {M : zMa}
theorem lsZ_ok (g : sGood M) : zOk (lsZ M) := by
  have mem : ∀ q, q < (lsP M).length → (lsP M).getD q 0 ∈ lsP M := fun q hq => by
    rw [List.getD_eq_getElem?_getD, List.getElem?_eq_getElem hq]
    exact List.getElem_mem hq
  refine ⟨fun q v hq e => ?_, fun i p hi e => ⟨?_, ?_⟩⟩
  · rw [lsZ_1] at hq
    rw [lsZ_E] at e
    exact (lsE_len g ((lsP_ok g).2 _ (mem q hq)).1 e).2
  · rw [lsZ_W] at e
    cases e2 : lsW M (3 * (lsP M).getD (i / 3) 0 + i % 3) with
    | none => rw [e2] at e; cases e
    | some p0 =>
      rw [e2] at e
      cases e
      exact (lsW_len g e2).2
  · rw [lsZ_1] at hi ⊢
    exact lsZ_lt g (q := i / 3) (j := i % 3) (by omega) (by omega) (by rw [show 3 * (i / 3) + i % 3 = i by omega]; exact e)
theorem s_fitsMachine (g : sGood M) (hxy : x + 1818 ≤ y) (d : LF h x y M) : ∃ h', zFr (y + 204) (y + 206) h h' ∧ LF h' x y M ∧ ((fitZ (lsZ M) ∧ zf nX1_fitsMachine [.inr y] h = some (1, 0, h')) ∨ (¬ fitZ (lsZ M) ∧ zf nX1_fitsMachine [.inr y] h = some (0, 0, h'))) := by
  have hn : lsN M ≤ 100 := g.2.2.2
  have hPl := lsP_len g
  have hZ : (lsZ M).1 < 2 ^ 30 := by rw [lsZ_1]; omega
  rw [e_X1_fitsMachine, d.st, Option.bind_some]
  by_cases c : 6 < (lsP M).length
  · rw [if_pos (by rw [n6, nI_ltI (by omega) (by omega)]; exact c), zb0]
    exact ⟨h, zFr.rf, d, Or.inr ⟨fun w => by have := w.1; rw [lsZ_1] at this; omega, rfl⟩⟩
  rw [if_neg (by rw [n6, nI_ltI (by omega) (by omega)]; exact c), zif_ok d.1.1.2.2.1.1.1]
  obtain ⟨h1, a1, a2, a3, a4⟩ := s_beginWord g hxy d
  rw [a1, Option.bind_some]
  dsimp only
  rw [a4.len, Option.bind_some]
  have hwl := a4.small
  by_cases c0 : 0 < (lsZ M).2.1.length
  · rw [if_pos (by rw [n0, nI_ltI (by omega) (by omega)]; exact c0), zb0]
    exact ⟨h1, a2, a3, Or.inr ⟨fun w => by rw [w.2.1] at c0; exact Nat.lt_irrefl _ c0, rfl⟩⟩
  rw [if_neg (by rw [n0, nI_ltI (by omega) (by omega)]; exact c0)]
  have hb : (lsZ M).2.1 = [] := List.length_eq_zero_iff.mp (by omega)
  let okq : Nat → Prop := fun q => (∀ v, (lsZ M).2.2.1 q = some v → v.length ≤ 3) ∧ ∀ j, j < 3 → ∀ p, (lsZ M).2.2.2 (3 * q + j) = some p → p.1.length ≤ 3
  refine zlq (P := fun q z => zFr (y + 204) (y + 206) h z ∧ LF z x y M ∧ ∀ i, i < q → okq i) (g := fun q z => zm_X1_fitsMachine 23 [some (.inr y), some (.inl (nI q)), none, none] [] z) (n := (lsP M).length) (Q := fun o => ∃ h', zFr (y + 204) (y + 206) h h' ∧ LF h' x y M ∧ ((fitZ (lsZ M) ∧ o = some (1, 0, h')) ∨ (¬ fitZ (lsZ M) ∧ o = some (0, 0, h')))) ?_ ?_ 0 h1 (Nat.zero_le _) ⟨a2, a3, fun i hi => absurd hi (Nat.not_lt_zero _)⟩
  · rintro q z hq ⟨fr, dz, hi⟩
    have hZq : q < (lsZ M).1 := by rw [lsZ_1]; exact hq
    rw [e_X1_fitsMachine_23, dz.st, Option.bind_some, if_pos ((nI_ltI (by omega) (by omega)).mpr hq)]
    refine zlq (P := fun l z => zFr (y + 204) (y + 206) h z ∧ LF z x y M ∧ ∀ i, i < l → ∀ w, aWord (lsZ M) (nI q) (nI i) = some w → w.length ≤ 3) (g := fun l z => zm_X1_fitsMachine 33 [some (.inr y), some (.inl (nI q)), some (.inl (nI l)), none] [] z) (n := 4) (Q := fun o => (∃ h', zFr (y + 204) (y + 206) h h' ∧ LF h' x y M ∧ ((fitZ (lsZ M) ∧ o = some (1, 0, h')) ∨ (¬ fitZ (lsZ M) ∧ o = some (0, 0, h')))) ∨ ∃ h', o = zm_X1_fitsMachine 23 [some (.inr y), some (.inl (nI (q + 1))), none, none] [] h' ∧ zFr (y + 204) (y + 206) h h' ∧ LF h' x y M ∧ ∀ i, i < q + 1 → okq i) ?_ ?_ 0 z (Nat.zero_le _) ⟨fr, dz, fun i hi => absurd hi (Nat.not_lt_zero _)⟩
    · rintro l z1 hl ⟨fr1, dz1, hi1⟩
      rw [e_X1_fitsMachine_33, if_neg (by rw [n3, nI_ltI (by omega) (by omega)]; omega), zif_ok dz1.1.1.2.2.1.1.1]
      obtain ⟨z2, f2, d2, w2⟩ := s_wordOf g hxy dz1 (nI q) (nI l)
      cases e : aWord (lsZ M) (nI q) (nI l) with
      | none =>
        rw [e] at w2
        right
        rw [show zf nX1_wordOf [.inr y, .inl (nI q), .inl (nI l)] z1 = some (0, 0, z2) from w2, Option.bind_some, if_pos rfl, nI_1]
        refine ⟨z2, rfl, fr1.tr f2, d2, fun i hi w ew => ?_⟩
        by_cases q1 : i = l
        · rw [q1, e] at ew; cases ew
        · exact hi1 i (by omega) w ew
      | some u =>
        rw [e] at w2
        obtain ⟨a, n, w3, w4, w5⟩ := w2
        have w41 : x + 1205 ≤ a := w4.1
        have hus := w5.small
        rw [w3, Option.bind_some]
        dsimp only
        rw [if_neg (by omega), w5.len, Option.bind_some]
        by_cases c3 : 3 < u.length
        · left
          left
          rw [if_pos (by rw [n3, nI_ltI (by omega) (by omega)]; exact c3), zb0]
          refine ⟨z2, fr1.tr f2, d2, Or.inr ⟨fun w => ?_, rfl⟩⟩
          obtain ⟨k1, k2⟩ := w.2.2 q hZq
          by_cases l0 : l = 0
          · rw [l0] at e
            have := k1 u ((aWord_0 hZ hZq).symm.trans e)
            omega
          · rw [aWord_l hZ hZq (by omega)] at e
            cases e5 : (lsZ M).2.2.2 (3 * q + (l - 1)) with
            | none => rw [e5] at e; cases e
            | some p =>
              rw [e5, Option.map_some] at e
              have e := Option.some.inj e
              have := k2 (l - 1) (by omega) p e5
              rw [← e] at c3
              omega
        · right
          rw [if_neg (by rw [n3, nI_ltI (by omega) (by omega)]; exact c3), nI_1]
          refine ⟨z2, rfl, fr1.tr f2, d2, fun i hi w ew => ?_⟩
          by_cases q1 : i = l
          · rw [q1, e] at ew
            cases ew
            omega
          · exact hi1 i (by omega) w ew
    · rintro z1 ⟨fr1, dz1, hi1⟩
      right
      rw [e_X1_fitsMachine_33, if_pos (by decide), nI_1]
      refine ⟨z1, rfl, fr1, dz1, fun i hi2 => ?_⟩
      by_cases q1 : i = q
      · subst q1
        refine ⟨fun v ev => hi1 0 (by omega) v ((aWord_0 hZ hZq).trans ev), fun j hj p ep => ?_⟩
        refine hi1 (j + 1) (by omega) p.1 ?_
        rw [aWord_l hZ hZq (by omega), show j + 1 - 1 = j by omega, ep]
        rfl
      · exact hi i (by omega)
  · rintro z ⟨fr, dz, hi⟩
    rw [e_X1_fitsMachine_23, dz.st, Option.bind_some, if_neg (by rw [nI_ltI (by omega) (by omega)]; omega), zb1]
    exact ⟨z, fr, dz, Or.inl ⟨⟨by rw [lsZ_1]; omega, hb, fun q hq => hi q (by rw [lsZ_1] at hq; exact hq)⟩, rfl⟩⟩
end LTK
