/-! The class Least: what it answers. -/
section LAN
variable {h h' : zM} {x y : Nat} {M : zMa}
/-- where the least machine goes -/
def aGoes (Z : zLz) (q l : Int32) : Int32 := if ¬ q < 0 ∧ q < nI Z.1 ∧ ¬ l < 1 ∧ ¬ 3 < l then (match Z.2.2.2 (3 * q.toNatClampNeg + (l.toNatClampNeg - 1)) with
    | none => -1
    | some p => nI p.2) else -1
/-- a word of the least machine -/
def aWord (Z : zLz) (q l : Int32) : Option zWo := if q = -1 then some Z.2.1 else if ¬ q < 0 ∧ q < nI Z.1 then
    (if l = 0 then Z.2.2.1 q.toNatClampNeg else if ¬ l < 1 ∧ ¬ 3 < l then (Z.2.2.2 (3 * q.toNatClampNeg + (l.toNatClampNeg - 1))).map (·.1) else none) else none
theorem lsV_ch (g : sGood M) {s q : Nat} (hq : q < (lsP M).length) (e : lsB M s = (lsP M).getD q 0) : lsB M s ∈ lsP M ∧ lsV M s = q := by
  have hm : (lsP M).getD q 0 ∈ lsP M := by
    rw [List.getD_eq_getElem?_getD, List.getElem?_eq_getElem hq]
    exact List.getElem_mem hq
  refine ⟨by rw [e]; exact hm, ?_⟩
  have h1 := lsV_of g hq
  have h2 := ((lsP_ok g).2 _ hm).2
  unfold lsV at h1 ⊢
  rw [h2] at h1
  rw [e]
  exact h1
/-- the chosen set of a state -/
theorem LF.ch (g : sGood M) (d : LF h x y M) {q : Nat} (hq : q < (lsP M).length) : ∃ s, s < lsN M ∧ zI h (y + 408) q = nI s ∧ (lsZ M).2.2.1 q = lsE M s ∧ ∀ j, j < 3 → (lsZ M).2.2.2 (3 * q + j) = (lsW M (3 * s + j)).map (fun p => (p.1, lsV M p.2)) ∧ ∀ p, lsW M (3 * s + j) = some p → lsB M p.2 ∈ lsP M := by
  obtain ⟨s, s1, s2, s3⟩ := d.2.2.1.2.2 q hq
  obtain ⟨v1, v2⟩ := lsV_ch g hq s3
  refine ⟨s, s1, s2, ?_, fun j hj => ?_⟩
  · have := lz_end g s1 v1
    rw [v2] at this
    exact this
  · have := lz_way g s1 hj v1
    rw [v2] at this
    exact this
theorem nI_nn {n : Nat} (h : n < 2 ^ 31) : ¬ nI n < 0 := by
  rw [n0, nI_ltI h (by decide)]
  exact Nat.not_lt_zero n
theorem i32_nn {q : Int32} {n : Nat} (h0 : ¬ q < 0) (h1 : q < nI n) (hn : n < 2 ^ 30) : ∃ k, k < n ∧ q = nI k := by
  obtain ⟨k, hk, e⟩ := nI_of h0
  refine ⟨k, ?_, e⟩
  rw [e, nI_ltI hk (by omega)] at h1
  exact h1
theorem aGoes_n {Z : zLz} {q l : Nat} (hZ : Z.1 < 2 ^ 30) (hq : q < Z.1) (hl : 1 ≤ l ∧ l ≤ 3) : aGoes Z (nI q) (nI l) = match Z.2.2.2 (3 * q + (l - 1)) with
    | none => -1
    | some p => nI p.2 := by
  unfold aGoes
  rw [if_pos ⟨nI_nn (by omega), (nI_ltI (by omega) (by omega)).mpr hq, by rw [n1, nI_ltI (by omega) (by omega)]; omega, by rw [n3, nI_ltI (by omega) (by omega)]; omega⟩, nI_clamp (by omega), nI_clamp (by omega)]
theorem aWord_0 {Z : zLz} {q : Nat} (hZ : Z.1 < 2 ^ 30) (hq : q < Z.1) : aWord Z (nI q) 0 = Z.2.2.1 q := by
  unfold aWord
  rw [if_neg (nneg (by omega)), if_pos ⟨nI_nn (by omega), (nI_ltI (by omega) (by omega)).mpr hq⟩, if_pos rfl, nI_clamp (by omega)]
theorem aWord_l {Z : zLz} {q l : Nat} (hZ : Z.1 < 2 ^ 30) (hq : q < Z.1) (hl : 1 ≤ l ∧ l ≤ 3) : aWord Z (nI q) (nI l) = (Z.2.2.2 (3 * q + (l - 1))).map (·.1) := by
  unfold aWord
  rw [if_neg (nneg (by omega)), if_pos ⟨nI_nn (by omega), (nI_ltI (by omega) (by omega)).mpr hq⟩, if_neg (by rw [n0, nI_eq (by omega) (by omega)]; omega), if_pos ⟨by rw [n1, nI_ltI (by omega) (by omega)]; omega, by rw [n3, nI_ltI (by omega) (by omega)]; omega⟩, nI_clamp (by omega), nI_clamp (by omega)]
theorem aGoes_q0 {Z : zLz} {q l : Int32} (h : q < 0) : aGoes Z q l = -1 := if_neg fun w => w.1 h
theorem aGoes_q1 {Z : zLz} {q l : Int32} (h : ¬ q < nI Z.1) : aGoes Z q l = -1 := if_neg fun w => h w.2.1
theorem aGoes_l {Z : zLz} {q l : Int32} (h : ¬ (¬ l < 1 ∧ ¬ 3 < l)) : aGoes Z q l = -1 := if_neg fun w => h ⟨w.2.2.1, w.2.2.2⟩
theorem aWord_1 {Z : zLz} {l : Int32} : aWord Z (-1) l = some Z.2.1 := if_pos rfl
theorem aWord_q0 {Z : zLz} {q l : Int32} (h1 : ¬ q = -1) (h : q < 0) : aWord Z q l = none := (if_neg h1).trans (if_neg fun w => w.1 h)
theorem aWord_q1 {Z : zLz} {q l : Int32} (h1 : ¬ q = -1) (h : ¬ q < nI Z.1) : aWord Z q l = none := (if_neg h1).trans (if_neg fun w => h w.2)
theorem aWord_no {Z : zLz} {q l : Int32} (h1 : ¬ q = -1) (h0 : ¬ l = 0) (h : ¬ (¬ l < 1 ∧ ¬ 3 < l)) : aWord Z q l = none := by
  unfold aWord
  rw [if_neg h1, if_neg h0, if_neg h]
  split <;> rfl
theorem LF.st (d : LF h x y M) : zgI h y 1 0 = some (nI (lsP M).length) := (zgI_ok d.1.1.2.2.1.1.1).trans (congrArg some d.2.2.1.1)
theorem nI_way {s l : Nat} (h1 : 1 ≤ l) : nI s * 3 + nI l - 1 = nI (3 * s + (l - 1)) := by
  rw [n3, pk_mul, nI_add, n1, pk_sub (by omega)]
  exact congrArg nI (by omega)
theorem s_stateBehind (g : sGood M) (d : LF h x y M) (q l : Int32) : zf nX1_stateBehind [.inr y, .inl q, .inl l] h = some (aGoes (lsZ M) q l, 0, h) := by
  have hn : lsN M ≤ 100 := g.2.2.2
  have hPl := lsP_len g
  have Y := d.1.1.2.2.1
  have X := d.1.1.1.1
  rw [e_X1_stateBehind]
  by_cases c0 : q < 0
  · rw [if_pos c0, aGoes_q0 c0]
  rw [if_neg c0, d.st, Option.bind_some]
  by_cases c1 : q < nI (lsP M).length
  · obtain ⟨k, hk, rfl⟩ := i32_nn c0 c1 (by omega)
    rw [if_pos c1, s_isInputLetter, Option.bind_some]
    dsimp only
    by_cases c2 : ¬ l < 1 ∧ ¬ 3 < l
    · obtain ⟨b, b1, b2, rfl⟩ := z_letter c2
      rw [aGoes_n (by rw [lsZ_1]; omega) (by rw [lsZ_1]; exact hk) ⟨b1, b2⟩, decide_eq_true c2, if_pos rfl, if_neg (by decide)]
      obtain ⟨s, s1, s2, -, s4⟩ := d.ch g hk
      obtain ⟨w1, w2⟩ := s4 (b - 1) (by omega)
      simp only [Y.g2, X.g3, Y.g10, Option.bind_some, Y.rd (j := 408) (by omega) (show k < 100 by omega), s2, nI_way b1, d.1.1.gt (i := 3 * s + (b - 1)) (by omega)]
      rw [w1]
      cases e : lsW M (3 * s + (b - 1)) with
      | none =>
        rw [(d.1.2.2.2.none (by omega) e).1, if_pos rfl]
        rfl
      | some p =>
        have hp := lsW_lt g _ _ e
        have hb := (lsB_ok g).1 p.2 hp
        rw [(d.1.2.2.2.some (by omega) e).1, if_neg (nneg (by omega))]
        simp only [Y.g9, Y.g7, Option.bind_some, Y.rd (j := 405) (by omega) (show p.2 < 100 by omega), d.2.1 p.2 hp, Y.rd (j := 407) (by omega) (show lsB M p.2 < 100 by omega), d.2.2.1.2.1 _ (show lsB M p.2 < lsN M by omega), if_pos (w2 p e), Option.map_some, lsV]
    · rw [aGoes_l c2, decide_eq_false c2, if_pos (by decide)]
  · rw [if_neg c1, aGoes_q1 (by rw [lsZ_1]; exact c1)]
/-- the words' places -/
def wPl (x y r : Nat) : Prop := x + 1205 ≤ r ∧ r + 2 ≤ y + 404
theorem lsN_0' (g : sGood M) (h : (lsP M).length = 0) : lsN M = 0 := by
  by_cases c : lsN M = 0
  · exact c
  · have := lsP_0 g c
    rw [List.length_eq_zero_iff.mp h] at this
    cases this
theorem s_beginWord (g : sGood M) (hxy : x + 1818 ≤ y) (d : LF h x y M) : ∃ h', zf nX1_beginWord [.inr y] h = some (0, y + 204, h') ∧ zFr (y + 204) (y + 206) h h' ∧ LF h' x y M ∧ Wd h' (y + 204) 129 (lsZ M).2.1 := by
  have hn : lsN M ≤ 100 := g.2.2.2
  have hPl := lsP_len g
  have Y := d.1.1.2.2.1
  rw [e_X1_beginWord, d.st, Option.bind_some, lsZ_2]
  by_cases c : (lsP M).length = 0
  · have h0 := lsN_0' g c
    obtain ⟨w, hw⟩ := d.1.1.2.2.comAt (i := 0) (by omega)
    have hw : Wd h (y + 204) 129 w := hw
    obtain ⟨h', a1, a2, a3⟩ := s_clear hw
    rw [if_pos (by rw [c]; rfl), Y.g5, Option.bind_some, n0, Y.e5 (i := 0) (by omega), Option.bind_some]
    rw [show y + 204 + 2 * 0 = y + 204 by omega, zif_ok hw.1, a1, Option.bind_some]
    have Y' := Y.keep a2
    dsimp only
    rw [Y'.g5, Option.bind_some, Y'.e5 (i := 0) (by omega), Option.bind_some]
    refine ⟨h', rfl, a2, ⟨⟨⟨d.1.1.1.eq (a2.eq (by omega)), by rw [a2.I (by omega)]; exact d.1.1.2.1, d.1.1.2.2.coms (i := 0) (by omega) a2 a3⟩, d.1.2.1.eq hn (a2.eq (by omega)), fun s hs => by omega, d.1.2.2.2.eq hn (a2.eq (by omega))⟩, d.2.1.keep a2 (by omega), ⟨by rw [a2.I (by omega)]; exact d.2.2.1.1, fun e he => by omega, fun q hq => by omega⟩, by rw [a2.I (by omega)]; exact d.2.2.2⟩, by rw [if_pos h0]; exact a3⟩
  · have h0 : lsN M ≠ 0 := fun e => c (by omega)
    rw [if_neg (by rw [n0, nI_eq (by omega) (by omega)]; exact c), Y.g5, Option.bind_some, n0, Y.e5 (i := 0) (by omega), Option.bind_some]
    refine ⟨h, rfl, zFr.rf, d, ?_⟩
    rw [if_neg h0]
    exact d.1.2.2.1 0 (by omega)
/-- what wordOf answers -/
def WoQ (x y : Nat) (M : zMa) (h : zM) (o : Option zWo) (r : Option zR) : Prop := ∃ h', zFr (y + 204) (y + 206) h h' ∧ LF h' x y M ∧ match o with
  | none => r = some (0, 0, h')
  | some w => ∃ a n, r = some (0, a, h') ∧ wPl x y a ∧ Wd h' a n w
theorem s_wordOf (g : sGood M) (hxy : x + 1818 ≤ y) (d : LF h x y M) (q l : Int32) : WoQ x y M h (aWord (lsZ M) q l) (zf nX1_wordOf [.inr y, .inl q, .inl l] h) := by
  have hn : lsN M ≤ 100 := g.2.2.2
  have hPl := lsP_len g
  have Y := d.1.1.2.2.1
  have X := d.1.1.1.1
  rw [e_X1_wordOf]
  by_cases cq : q = -1
  · rw [if_pos cq, cq, aWord_1, zif_ok Y.1.1]
    obtain ⟨h', a1, a2, a3, a4⟩ := s_beginWord g hxy d
    rw [a1, Option.bind_some]
    exact ⟨h', a2, a3, y + 204, 129, rfl, ⟨by omega, by omega⟩, a4⟩
  rw [if_neg cq]
  by_cases c0 : q < 0
  · rw [if_pos c0, aWord_q0 cq c0]
    exact ⟨h, zFr.rf, d, rfl⟩
  rw [if_neg c0, d.st, Option.bind_some]
  by_cases c1 : q < nI (lsP M).length
  · obtain ⟨k, hk, rfl⟩ := i32_nn c0 c1 (by omega)
    obtain ⟨s, s1, s2, s3, s4⟩ := d.ch g hk
    have hZ : (lsZ M).1 < 2 ^ 30 := by rw [lsZ_1]; omega
    have hkZ : k < (lsZ M).1 := by rw [lsZ_1]; exact hk
    rw [if_pos c1]
    by_cases cl : l = 0
    · rw [if_pos cl, cl, aWord_0 hZ hkZ, s3]
      obtain ⟨e1, e2⟩ := d.1.2.1 s s1
      simp only [Y.g3, Y.g10, Option.bind_some, Y.rd (j := 408) (by omega) (show k < 100 by omega), s2, Y.rb (show s < 100 by omega), e1]
      cases e : lsE M s with
      | none =>
        rw [if_pos (show bI (none : Option zWo).isSome = 0 from rfl)]
        exact ⟨h, zFr.rf, d, rfl⟩
      | some v =>
        rw [if_neg (show ¬ bI (some v).isSome = 0 from (by decide : ¬ bI true = 0))]
        simp only [Y.g4, Option.bind_some, Y.e4 (show s < 100 by omega)]
        exact ⟨h, zFr.rf, d, _, _, rfl, ⟨by omega, by omega⟩, e2 v e⟩
    · rw [if_neg cl, zif_ok Y.1.1, s_stateBehind g d, Option.bind_some]
      dsimp only
      by_cases c2 : ¬ l < 1 ∧ ¬ 3 < l
      · obtain ⟨b, b1, b2, rfl⟩ := z_letter c2
        obtain ⟨w1, w2⟩ := s4 (b - 1) (by omega)
        rw [aGoes_n hZ hkZ ⟨b1, b2⟩, aWord_l hZ hkZ ⟨b1, b2⟩, w1]
        cases e : lsW M (3 * s + (b - 1)) with
        | none =>
          simp only [Option.map_none, if_true]
          exact ⟨h, zFr.rf, d, rfl⟩
        | some p =>
          have hp := lsW_lt g _ _ e
          have hv := (lsV_get (w2 p e)).1
          have gf := d.1.2.2.2.some (by omega) e
          rw [show ((some p).map (fun p => (p.1, lsV M p.2))) = some (p.1, lsV M p.2) from rfl]
          dsimp only
          rw [if_neg (nneg (by omega))]
          simp only [Y.g2, X.g4, Y.g10, Option.bind_some, Y.rd (j := 408) (by omega) (show k < 100 by omega), s2, nI_way b1, d.1.1.gw (i := 3 * s + (b - 1)) (by omega)]
          exact ⟨h, zFr.rf, d, _, _, rfl, ⟨by omega, by omega⟩, gf.2⟩
      · rw [aGoes_l c2, aWord_no cq cl c2, if_pos rfl]
        exact ⟨h, zFr.rf, d, rfl⟩
  · rw [if_neg c1, aWord_q1 cq (by rw [lsZ_1]; exact c1)]
    exact ⟨h, zFr.rf, d, rfl⟩
end LAN
