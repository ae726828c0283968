/-! Words, further: numbers, beginnings, ends. -/
def ndf : Nat → Nat → Nat
  | 0, _ => 0
  | f + 1, x => if x = 0 then 0 else ndf f (x / 10) + 1
/-- how many digits -/
def nd (x : Nat) : Nat := ndf 11 x
theorem ndf_0 : ∀ f, ndf f 0 = 0
  | 0 => rfl
  | f + 1 => if_pos rfl
theorem ndf_eq : ∀ (f x j : Nat), x / 10 ^ j ≠ 0 → x / 10 ^ (j + 1) = 0 → j < f → ndf f x = j + 1
  | 0, x, j, _, _, h => absurd h (Nat.not_lt_zero _)
  | f + 1, x, 0, h1, h2, _ => by
    rw [Nat.pow_zero, Nat.div_one] at h1
    rw [Nat.zero_add, Nat.pow_one] at h2
    rw [ndf, if_neg h1, h2, ndf_0]
  | f + 1, x, j + 1, h1, h2, h3 => by
    have hx : x ≠ 0 := fun q => h1 (by rw [q, Nat.zero_div])
    rw [ndf, if_neg hx, ndf_eq f (x / 10) j ?_ ?_ (by omega)]
    · rw [Nat.div_div_eq_div_mul, Nat.mul_comm, ← Nat.pow_succ]; exact h1
    · rw [Nat.div_div_eq_div_mul, Nat.mul_comm, ← Nat.pow_succ]; exact h2
/-- the n digits of x, the highest first -/
def dl : Nat → Nat → List Int32
  | 0, _ => []
  | n + 1, x => nI (x / 10 ^ n % 10) :: dl n x
theorem dl_len : ∀ n x, (dl n x).length = n
  | 0, _ => rfl
  | n + 1, x => by simp [dl, dl_len n x]
theorem dl_at : ∀ (n x k : Nat), k < n → (dl n x).getD k 0 = nI (x / 10 ^ (n - 1 - k) % 10)
  | 0, x, k, h => absurd h (Nat.not_lt_zero _)
  | n + 1, x, 0, h => by simp [dl]
  | n + 1, x, k + 1, h => by
    rw [dl, List.getD_cons_succ, dl_at n x k (by omega)]
    congr 4
    omega
def dgs (x : Nat) : List Int32 := dl (nd x) x
/-- the letters of a number; none without one above 0 -/
def dn (x : Int32) : List Int32 := if 0 < x then dgs x.toNatClampNeg else []
theorem take_take_app (n : Nat) (l r : List Int32) : ((l.take n) ++ r).take n = (l ++ r).take n := by
  by_cases h : l.length ≤ n
  · rw [List.take_of_length_le h]
  · rw [List.take_append_of_le_length (by simp; omega), List.take_append_of_le_length (by omega), List.take_take, Nat.min_self]
theorem z10 : ¬ (10 : Int32) = 0 := by decide
theorem nI_lit10 : (10 : Int32) = nI 10 := rfl
theorem p10_lt {x j : Nat} (hx : x < 2 ^ 31) (hj : x / 10 ^ j ≠ 0) : 10 ^ j < 2 ^ 31 ∧ j ≤ 9 := by
  have h1 : 10 ^ j ≤ x := by
    rcases Nat.lt_or_ge x (10 ^ j) with q | q
    · exact absurd (Nat.div_eq_of_lt q) hj
    · exact q
  refine ⟨by omega, ?_⟩
  rcases Nat.lt_or_ge 9 j with q | q
  · have : 10 ^ 10 ≤ 10 ^ j := Nat.pow_le_pow_right (by omega) q
    have : (10 : Nat) ^ 10 = 10000000000 := by decide
    omega
  · exact q
theorem s_addNumber_29 {n x a : Nat} {r : Int32} (hx : x < 2 ^ 31) : ∀ (j : Nat) (h : zM) (w : List Int32), x / 10 ^ j ≠ 0 ∨ 10 ^ j < 2 ^ 31 → 10 ^ j < 2 ^ 31 → Wd h a n w → ∃ h', zm_X10_addNumber 29 [some (.inr a), some (.inl (nI x)), some (.inl (nI (10 ^ j))), some (.inl r)] [] h = some (0, 0, h') ∧ zFr a (a + 2) h h' ∧ Wd h' a n ((w ++ dl (j + 1) x).take n) := by
  intro j
  induction j with
  | zero =>
    intro h w _ hj d
    rw [e_X10_addNumber_29, if_pos (by decide), if_neg (by decide), if_neg z10, zif_ok d.1]
    have e1 : nI x / nI (10 ^ 0) - nI x / nI (10 ^ 0) / 10 * 10 = nI (x / 10 ^ 0 % 10) := by
      rw [pk_div hx (by decide) (by decide), nI_lit10, pk_rem (by have := Nat.div_le_self x (10 ^ 0); omega) (by decide) (by decide)]
    rw [e1]
    obtain ⟨h', g1, g2, g3⟩ := s_add d (nI (x / 10 ^ 0 % 10))
    rw [g1, Option.bind_some, if_neg z10]
    rw [e_X10_addNumber_29, if_neg (by decide)]
    exact ⟨h', rfl, g2, g3⟩
  | succ j ih =>
    intro h w _ hj d
    have hpos : 0 < 10 ^ (j + 1) := Nat.pow_pos (by omega)
    have hj' : 10 ^ j < 2 ^ 31 := by rw [Nat.pow_succ] at hj; omega
    have z1 : (0 : Int32) < nI (10 ^ (j + 1)) := by rw [show (0 : Int32) = nI 0 from rfl, nI_ltI (by decide) hj]; exact hpos
    have z2 : ¬ nI (10 ^ (j + 1)) = 0 := nI_ne0 hpos hj
    rw [e_X10_addNumber_29, if_pos z1, if_neg z2, if_neg z10, zif_ok d.1]
    have e1 : nI x / nI (10 ^ (j + 1)) - nI x / nI (10 ^ (j + 1)) / 10 * 10 = nI (x / 10 ^ (j + 1) % 10) := by
      rw [pk_div hx hpos hj, nI_lit10, pk_rem (by have := Nat.div_le_self x (10 ^ (j + 1)); omega) (by decide) (by decide)]
    rw [e1]
    obtain ⟨h', g1, g2, g3⟩ := s_add d (nI (x / 10 ^ (j + 1) % 10))
    rw [g1, Option.bind_some, if_neg z10]
    have e2 : nI (10 ^ (j + 1)) / 10 = nI (10 ^ j) := by
      rw [nI_lit10, pk_div hj (by decide) (by decide), Nat.pow_succ, Nat.mul_div_cancel _ (by decide)]
    rw [e2]
    obtain ⟨h2, k1, k2, k3⟩ := ih h' _ (Or.inr hj') hj' g3
    refine ⟨h2, k1, g2.tr k2, ?_⟩
    rw [take_take_app, List.append_assoc] at k3
    exact k3
theorem s_addNumber_12 {n x a : Nat} (hx : x < 2 ^ 31) {h : zM} {w : List Int32} (d : Wd h a n w) : ∀ (f j : Nat), x / 10 ^ j ≠ 0 → 10 - j ≤ f → ∃ h', zm_X10_addNumber 12 [some (.inr a), some (.inl (nI x)), some (.inl (nI (10 ^ j))), some (.inl (nI (x / 10 ^ (j + 1))))] [] h = some (0, 0, h') ∧ zFr a (a + 2) h h' ∧ Wd h' a n ((w ++ dgs x).take n) := by
  intro f
  induction f with
  | zero =>
    intro j hj hf
    have := (p10_lt hx hj).2
    omega
  | succ f ih =>
    intro j hj hf
    have hp := p10_lt hx hj
    have hq : x / 10 ^ (j + 1) < 2 ^ 31 := by have := Nat.div_le_self x (10 ^ (j + 1)); omega
    rw [e_X10_addNumber_12]
    by_cases c : x / 10 ^ (j + 1) = 0
    · rw [c, if_neg (by decide)]
      obtain ⟨h', g1, g2, g3⟩ := s_addNumber_29 (r := nI 0) hx j h w (Or.inr hp.1) hp.1 d
      refine ⟨h', g1, g2, ?_⟩
      rw [← ndf_eq 11 x j hj c (by omega)] at g3
      exact g3
    · have hp2 := p10_lt hx c
      rw [if_pos (by rw [show (0 : Int32) = nI 0 from rfl, nI_ltI (by decide) hq]; exact Nat.pos_of_ne_zero c), if_neg z10]
      rw [nI_lit10, pk_mul, pk_div hq (by decide) (by decide), ← Nat.pow_succ, Nat.div_div_eq_div_mul, ← Nat.pow_succ]
      exact ih (j + 1) c (by omega)
theorem s_addNumber {h : zM} {a n : Nat} {w : List Int32} (d : Wd h a n w) (x : Int32) : ∃ h', zf nX10_addNumber [.inr a, .inl x] h = some (0, 0, h') ∧ zFr a (a + 2) h h' ∧ Wd h' a n ((w ++ dn x).take n) := by
  rw [e_X10_addNumber]
  unfold dn
  by_cases hx : 0 < x
  · rw [if_pos hx, if_pos hx, if_neg z10]
    have h0 : ¬ x < 0 := fun q => by
      rw [Int32.lt_iff_toInt_lt] at hx q
      omega
    obtain ⟨j, hj, rfl⟩ := nI_of h0
    rw [nI_clamp hj]
    have hj0 : j ≠ 0 := fun q => by subst q; exact absurd hx (by decide)
    have := s_addNumber_12 hj d 10 0 (by simpa using hj0) (by omega)
    rw [Nat.zero_add, Nat.pow_zero, Nat.pow_one] at this
    rw [nI_lit10, pk_div hj (by decide) (by decide)]
    exact this
  · rw [if_neg hx, if_neg hx, List.append_nil, List.take_of_length_le d.small.2.2]
    exact ⟨h, rfl, zFr.rf, d⟩
theorem s_read {h : zM} {a n : Nat} {w : List Int32} (d : Wd h a n w) (x : Int32) : ∃ h', zf nX10_read [.inr a, .inl x] h = some (0, 0, h') ∧ zFr a (a + 2) h h' ∧ Wd h' a n ((dn x).take n) := by
  obtain ⟨h1, g1, g2, g3⟩ := s_clear d
  obtain ⟨h2, k1, k2, k3⟩ := s_addNumber g3 x
  rw [e_X10_read, zif_ok d.1, g1, Option.bind_some, zif_ok g3.1]
  dsimp only
  rw [k1, Option.bind_some]
  exact ⟨h2, rfl, g2.tr k2, k3⟩
def wnum (w : List Int32) : Int32 := w.foldl (fun s x => s * 10 + x) 0
theorem s_number_loop {h : zM} {a n : Nat} {w : List Int32} (d : Wd h a n w) : ∀ (f k : Nat) (s : Int32), k ≤ w.length → w.length - k ≤ f → zm_X10_number 4 [some (.inr a), some (.inl s), some (.inl (nI k))] [] h = some ((w.drop k).foldl (fun s x => s * 10 + x) s, 0, h) := by
  have h1 := d.small
  intro f
  induction f with
  | zero =>
    intro k s hk hf
    rw [e_X10_number_4, d.len, Option.bind_some, if_neg (by rw [nI_ltI (by omega) (by omega)]; omega), List.drop_of_length_le (by omega)]
    rfl
  | succ f ih =>
    intro k s hk hf
    rw [e_X10_number_4, d.len, Option.bind_some]
    by_cases c : k < w.length
    · rw [if_pos ((nI_ltI (by omega) (by omega)).mpr c), d.arr, Option.bind_some, d.at c, Option.bind_some, nI_1, ih (k + 1) _ (by omega) (by omega), List.drop_eq_getElem_cons c, List.foldl_cons]
      simp [List.getD_eq_getElem?_getD, c]
    · rw [if_neg (by rw [nI_ltI (by omega) (by omega)]; omega), List.drop_of_length_le (by omega)]
      rfl
theorem s_number {h : zM} {a n : Nat} {w : List Int32} (d : Wd h a n w) : zf nX10_number [.inr a] h = some (wnum w, 0, h) := by
  rw [e_X10_number]
  exact s_number_loop d w.length 0 0 (Nat.zero_le _) (by omega)
theorem s_shortenTo {h : zM} {a n : Nat} {w : List Int32} (d : Wd h a n w) {c : Nat} (hc : c < 2 ^ 30) : ∃ h', zf nX10_shortenTo [.inr a, .inl (nI c)] h = some (0, 0, h') ∧ zFr a (a + 2) h h' ∧ Wd h' a n (w.take c) := by
  have h1 := d.small
  have d0 := d
  obtain ⟨d1, d2, d3, d4, d5, d6, d7, d8⟩ := d
  rw [e_X10_shortenTo, d0.len, Option.bind_some, s_min, Option.bind_some]
  dsimp only
  rw [s_max, Option.bind_some]
  dsimp only
  have e1 : (if nI c < nI w.length then nI c else nI w.length) = nI (min w.length c) := by
    by_cases q : c < w.length
    · rw [if_pos ((nI_ltI (by omega) (by omega)).mpr q), Nat.min_eq_right (by omega)]
    · rw [if_neg (by rw [nI_ltI (by omega) (by omega)]; exact q), Nat.min_eq_left (by omega)]
  have e2 : (if (0 : Int32) < nI (min w.length c) then nI (min w.length c) else 0) = nI (min w.length c) := by
    split
    · rfl
    · rename_i q
      rw [show (0 : Int32) = nI 0 from rfl, nI_ltI (by decide) (by omega)] at q
      rw [show min w.length c = 0 by omega]
      rfl
  rw [e1, e2, zpI_ok d1, Option.bind_some]
  have hl : (w.take c).length = min w.length c := by simp; omega
  have hf : zFr a (a + 2) h (zsI h a 1 (nI (min w.length c))) := zFr_sI (by omega) (by omega)
  refine ⟨_, rfl, hf, d0.of hf rfl ?_ (by rw [hl]; omega) (fun i hi => ?_)⟩
  · rw [zI_sI, hl]
  · rw [hl] at hi
    rw [zI_sI_a (by omega), List.getD_eq_getElem?_getD, List.getElem?_take_of_lt (by omega), ← List.getD_eq_getElem?_getD]
    exact d8 i (by omega)
theorem s_dropFirst {h : zM} {a n : Nat} {w : List Int32} (d : Wd h a n w) {c : Nat} (hc : c < 2 ^ 30) : ∃ h', zf nX10_dropFirst [.inr a, .inl (nI c)] h = some (0, 0, h') ∧ zFr a (a + 2) h h' ∧ Wd h' a n (w.drop c) := by
  have h1 := d.small
  have d0 := d
  obtain ⟨d1, d2, d3, d4, d5, d6, d7, d8⟩ := d
  rw [e_X10_dropFirst]
  by_cases c0 : c = 0
  · subst c0
    rw [if_neg (by decide), List.drop_zero]
    exact ⟨h, rfl, zFr.rf, d0⟩
  · rw [if_pos (by rw [show (0 : Int32) = nI 0 from rfl, nI_ltI (by decide) (by omega)]; omega), d0.len, Option.bind_some, s_min, Option.bind_some]
    dsimp only
    have e1 : (if nI w.length < nI c then nI w.length else nI c) = nI (min w.length c) := by
      by_cases q : w.length < c
      · rw [if_pos ((nI_ltI (by omega) (by omega)).mpr q), Nat.min_eq_left (by omega)]
      · rw [if_neg (by rw [nI_ltI (by omega) (by omega)]; exact q), Nat.min_eq_right (by omega)]
    rw [e1, d0.arr, Option.bind_some]
    simp only [Option.bind_some]
    rw [d0.len, Option.bind_some, pk_sub (by omega)]
    generalize hm : min w.length c = m
    have em : (nI m).toNatClampNeg = m := nI_clamp (by omega)
    have er : (nI (w.length - m)).toNatClampNeg = w.length - m := nI_clamp (by omega)
    have e0 : (0 : Int32).toNatClampNeg = 0 := rfl
    obtain ⟨H1, hz, hf, f1, f2, f3⟩ : ∃ H1, zcp h (a + 1) (nI m) (a + 1) 0 (nI (w.length - m)) = some H1 ∧ zFr a (a + 2) h H1 ∧ zI H1 a 1 = nI w.length ∧ zF H1 a 0 = zF h a 0 ∧ ∀ i, i < w.length - m → zI H1 (a + 1) i = w.getD (m + i) 0 := by
      refine ⟨_, if_pos ⟨⟨d3, d3⟩, ⟨nI_pos (by omega), by decide, nI_pos (by omega)⟩, by rw [em, er, d4]; omega, by rw [er, e0, d4]; omega⟩, ⟨rfl, rfl, fun q => ⟨fun hq => va_up_ne _ _ (by omega), rfl⟩⟩, ?_, rfl, fun i hi => ?_⟩
      · show va_up h.2.2.1 (a + 1) _ a 1 = _
        rw [va_up_ne _ _ (by omega)]
        exact d6
      · show va_up h.2.2.1 (a + 1) _ (a + 1) i = _
        rw [va_up_self, em, er, e0, pk_cpy_in (by omega) (by omega), show m + (i - 0) = m + i by omega]
        exact d8 (m + i) (by omega)
    have hk : zK H1 a = 10 + 1 := by rw [hf.K]; exact d1
    rw [hz, Option.bind_some, zgI_ok hk, Option.bind_some, zpI_ok hk, Option.bind_some]
    have hl : (w.drop c).length = w.length - m := by simp; omega
    have hf2 := hf.tr (zFr_sI (lo := a) (hi := a + 2) (a := a) (k := 1) (x := zI H1 a 1 - nI m) (by omega) (by omega))
    refine ⟨_, rfl, hf2, d0.of hf2 f2 ?_ (by rw [hl]; omega) (fun i hi => ?_)⟩
    · rw [zI_sI, f1, pk_sub (by omega), hl]
    · rw [hl] at hi
      rw [zI_sI_a (by omega), f3 i hi]
      rw [List.getD_eq_getElem?_getD, List.getD_eq_getElem?_getD, List.getElem?_drop]
      congr 2
      omega
theorem lcp_app_le (w f s : List Int32) (hf : lcp w f = f.length) : f.length ≤ w.length ∧ ∀ k, f.length ≤ k → k ≤ lcp w (f ++ s) → ((k < w.length ∧ k - f.length < s.length ∧ w.getD k 0 = s.getD (k - f.length) 0) ↔ k < lcp w (f ++ s)) := by
  refine ⟨by have := lcp_le w f; omega, fun k h1 h2 => ?_⟩
  have := lcp_spec w (f ++ s) k h2
  rw [← this]
  rw [show (f ++ s).getD k 0 = s.getD (k - f.length) 0 by rw [List.getD_eq_getElem?_getD, List.getElem?_append_right h1, ← List.getD_eq_getElem?_getD]]
  simp only [List.length_append]
  constructor
  · rintro ⟨a, b, c⟩; exact ⟨a, by omega, c⟩
  · rintro ⟨a, b, c⟩; exact ⟨a, by omega, c⟩
theorem lcp_app : ∀ (w f s : List Int32), lcp w f < f.length → lcp w (f ++ s) = lcp w f
  | [], f, s, h => by simp [lcp]
  | x :: xs, [], s, h => by simp at h
  | x :: xs, y :: ys, s, h => by
    by_cases hxy : x = y
    · rw [lcp, if_pos hxy] at h ⊢
      rw [List.cons_append, lcp, if_pos hxy, lcp_app xs ys s (by simpa using h)]
    · simp [lcp, hxy]
theorem lcp_app_ge : ∀ (w f s : List Int32), lcp w f = f.length → f.length ≤ lcp w (f ++ s)
  | w, [], s, h => by simp
  | [], y :: ys, s, h => by simp [lcp] at h
  | x :: xs, y :: ys, s, h => by
    by_cases hxy : x = y
    · rw [lcp, if_pos hxy] at h
      have := lcp_app_ge xs ys s (by simpa using h)
      simp [lcp, hxy]; exact this
    · simp [lcp, hxy] at h
theorem s_commonWith2_loop {h : zM} {a b c n m q : Nat} {w f s : List Int32} (d : Wd h a n w) (e : Wd h b m f) (g : Wd h c q s) (hw : ∀ k, k < w.length → w.getD k 0 ≠ -1) (hf : lcp w f = f.length) : ∀ (t k : Nat), f.length ≤ k → k ≤ lcp w (f ++ s) → lcp w (f ++ s) - k ≤ t → zm_X10_commonWith_ 16 [some (.inr a), some (.inr b), some (.inr c), some (.inl (nI k))] [] h = some (nI (lcp w (f ++ s)), 0, h) := by
  have h1 := d.small
  have h2 := e.small
  have h3 := g.small
  have hle := (lcp_le w (f ++ s)).1
  have hsp := (lcp_app_le w f s hf).2
  have step : ∀ k, f.length ≤ k → k ≤ lcp w (f ++ s) → zm_X10_commonWith_ 16 [some (.inr a), some (.inr b), some (.inr c), some (.inl (nI k))] [] h = if k < lcp w (f ++ s) then zm_X10_commonWith_ 16 [some (.inr a), some (.inr b), some (.inr c), some (.inl (nI (k + 1)))] [] h else some (nI k, 0, h) := by
    intro k k1 k2
    rw [e_X10_commonWith__16, d.len, Option.bind_some]
    by_cases c1 : k < w.length
    · rw [if_pos ((nI_ltI (by omega) (by omega)).mpr c1), d.arr, Option.bind_some, d.at c1, Option.bind_some, e.len, Option.bind_some, zif_ok g.1, pk_sub k1, s_letterAt g, Option.bind_some]
      dsimp only
      rw [wAt_nI h3.1 (by omega)]
      by_cases c2 : k - f.length < s.length
      · rw [if_pos c2]
        by_cases c3 : w.getD k 0 = s.getD (k - f.length) 0
        · rw [if_pos c3, if_pos ((hsp k k1 k2).mp ⟨c1, c2, c3⟩), nI_1]
        · rw [if_neg c3, if_neg (fun z => c3 ((hsp k k1 k2).mpr z).2.2)]
      · rw [if_neg c2, if_neg (hw k c1), if_neg (fun z => c2 ((hsp k k1 k2).mpr z).2.1)]
    · rw [if_neg (by rw [nI_ltI (by omega) (by omega)]; exact c1), if_neg (fun z => c1 ((hsp k k1 k2).mpr z).1)]
  intro t
  induction t with
  | zero =>
    intro k k1 k2 k3
    rw [step k k1 k2, if_neg (by omega), show k = lcp w (f ++ s) by omega]
  | succ t ih =>
    intro k k1 k2 k3
    rw [step k k1 k2]
    by_cases c1 : k < lcp w (f ++ s)
    · rw [if_pos c1]
      exact ih (k + 1) (by omega) (by omega) (by omega)
    · rw [if_neg c1, show k = lcp w (f ++ s) by omega]
theorem s_commonWith2 {h : zM} {a b c n m q : Nat} {w f s : List Int32} (d : Wd h a n w) (e : Wd h b m f) (g : Wd h c q s) (hw : ∀ k, k < w.length → w.getD k 0 ≠ -1) : zf nX10_commonWith_ [.inr a, .inr b, .inr c] h = some (nI (lcp w (f ++ s)), 0, h) := by
  have h2 := e.small
  have hle := lcp_le w f
  rw [e_X10_commonWith_, zif_ok d.1, s_commonWith d e, Option.bind_some]
  dsimp only
  rw [e.len, Option.bind_some]
  by_cases c1 : lcp w f < f.length
  · rw [if_pos ((nI_ltI (by omega) (by omega)).mpr c1), lcp_app w f s c1]
  · have hf : lcp w f = f.length := by omega
    rw [if_neg (by rw [nI_ltI (by omega) (by omega)]; exact c1), hf]
    exact s_commonWith2_loop d e g hw hf _ f.length (Nat.le_refl _) (lcp_app_ge w f s hf) (Nat.le_refl _)
/-- what the loop of reverse has made of w behind t turns -/
def rvs (w : List Int32) (t i : Nat) : Int32 := if i < t ∨ w.length - t ≤ i then w.getD (w.length - 1 - i) 0 else w.getD i 0
theorem s_reverse_loop {a n : Nat} {w : List Int32} : ∀ (f t : Nat) (h : zM), w.length - 2 * t ≤ f → 2 * t ≤ w.length + 1 → zK h a = 11 → zF h a 0 = a + 1 → zK h (a + 1) = 101 → zN h (a + 1) = n → n < 2 ^ 30 → w.length ≤ n → (∀ i, i < w.length → zI h (a + 1) i = rvs w t i) →
    ∃ h', zm_X10_reverse 9 [some (.inr a), some (.inl (nI t)), some (.inl (nI w.length - nI (t + 1))), none] [] h = some (0, 0, h') ∧ zFr a (a + 2) h h' ∧ zI h' a 1 = zI h a 1 ∧ zF h' a 0 = zF h a 0 ∧ ∀ i, i < w.length → zI h' (a + 1) i = w.getD (w.length - 1 - i) 0 := by
  intro f
  induction f with
  | zero =>
    intro t h hf ht k1 k2 k3 k4 k5 k6 k7
    have hc : ¬ nI t < nI w.length - nI (t + 1) := by
      rw [Int32.lt_iff_toInt_lt, nI_toInt (by omega), pk_sub_toInt (by omega) (by omega)]
      omega
    rw [e_X10_reverse_9, if_neg hc]
    refine ⟨h, rfl, zFr.rf, rfl, rfl, fun i hi => ?_⟩
    rw [k7 i hi]
    unfold rvs
    by_cases q : i < t ∨ w.length - t ≤ i
    · rw [if_pos q]
    · omega
  | succ f ih =>
    intro t h hf ht k1 k2 k3 k4 k5 k6 k7
    rw [e_X10_reverse_9]
    by_cases hc : 2 * t + 1 < w.length
    · have hc' : nI t < nI w.length - nI (t + 1) := by
        rw [Int32.lt_iff_toInt_lt, nI_toInt (by omega), pk_sub_toInt (by omega) (by omega)]
        omega
      rw [if_pos hc', pk_sub (by omega)]
      have g0 : ∀ j, j < w.length → zia h (a + 1) (nI j) = some (rvs w t j) := fun j hj => by rw [zia_ok k3 (by omega) (by omega), k7 j hj]
      rw [zgF_ok k1, k2, Option.bind_some, g0 t (by omega), Option.bind_some]
      simp only [Option.bind_some]
      rw [g0 _ (by omega), Option.bind_some, zis_ok k3 (by omega) (by omega), Option.bind_some, zgF_ok (show zK (zsI h (a + 1) t _) a = 10 + 1 from k1), Option.bind_some, zF_sI, k2, zis_ok (show zK (zsI h (a + 1) t _) (a + 1) = 101 from k3) (by show _ < zN h (a + 1); omega) (by show zN h (a + 1) < _; omega), Option.bind_some]
      rw [nI_1, show (nI (w.length - (t + 1)) + (-1) : Int32) = nI w.length - nI (t + 1 + 1) by
        obtain ⟨z, hz⟩ : ∃ z, w.length - (t + 1) = z + 1 := ⟨w.length - (t + 1) - 1, by omega⟩
        rw [hz, pk_m1, pk_sub (by omega)]
        congr 1
        omega]
      obtain ⟨h', r1, r2, r3, r4, r5⟩ := ih (t + 1) (zsI (zsI h (a + 1) t (rvs w t (w.length - (t + 1)))) (a + 1) (w.length - (t + 1)) (rvs w t t)) (by omega) (by omega) k1 k2 k3 k4 k5 k6 (fun i hi => by
        by_cases q1 : i = w.length - (t + 1)
        · subst q1
          rw [zI_sI]
          unfold rvs
          rw [if_neg (by omega), if_pos (by omega)]
          congr 1
          omega
        · rw [zI_sI_k q1]
          by_cases q2 : i = t
          · subst q2
            rw [zI_sI]
            unfold rvs
            rw [if_neg (by omega), if_pos (by omega)]
            congr 1
            omega
          · rw [zI_sI_k q2, k7 i hi]
            unfold rvs
            by_cases q3 : i < t ∨ w.length - t ≤ i
            · rw [if_pos q3, if_pos (by omega)]
            · rw [if_neg q3, if_neg (by omega)])
      refine ⟨h', r1, ((zFr_sI (by omega) (by omega)).tr (zFr_sI (by omega) (by omega))).tr r2, ?_, r4.trans k2, r5⟩
      rw [r3, zI_sI_a (by omega), zI_sI_a (by omega)]
    · have hc' : ¬ nI t < nI w.length - nI (t + 1) := by
        rw [Int32.lt_iff_toInt_lt, nI_toInt (by omega), pk_sub_toInt (by omega) (by omega)]
        omega
      rw [if_neg hc']
      refine ⟨h, rfl, zFr.rf, rfl, rfl, fun i hi => ?_⟩
      rw [k7 i hi]
      unfold rvs
      by_cases q : i < t ∨ w.length - t ≤ i
      · rw [if_pos q]
      · rw [if_neg q]
        congr 1
        omega
theorem s_reverse {h : zM} {a n : Nat} {w : List Int32} (d : Wd h a n w) : ∃ h', zf nX10_reverse [.inr a] h = some (0, 0, h') ∧ zFr a (a + 2) h h' ∧ Wd h' a n w.reverse := by
  have d0 := d
  obtain ⟨d1, d2, d3, d4, d5, d6, d7, d8⟩ := d
  rw [e_X10_reverse, d0.len, Option.bind_some]
  obtain ⟨h', r1, r2, r3, r4, r5⟩ := s_reverse_loop (a := a) (n := n) (w := w) w.length 0 h (by omega) (by omega) d1 d2 d3 d4 d5 d7 (fun i hi => by
    rw [d8 i hi]
    unfold rvs
    rw [if_neg (by omega)])
  refine ⟨h', r1, r2, d0.of r2 r4 (by rw [r3, d6, List.length_reverse]) (by rw [List.length_reverse]; exact d7) (fun i hi => ?_)⟩
  rw [List.length_reverse] at hi
  rw [r5 i hi, List.getD_eq_getElem?_getD, List.getD_eq_getElem?_getD, List.getElem?_reverse hi]
