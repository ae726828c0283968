/-! The reference: frames, rows of letters. -/
/-- ints have changed in the arrays m + k, k of L, and in the fields of J alone -/
def zOf (m : Nat) (L J : List Nat) (h h' : zM) : Prop := h'.1 = h.1 ∧ h'.2.1 = h.2.1 ∧ h'.2.2.2 = h.2.2.2 ∧ (∀ a, a ≠ m → (∀ k ∈ L, a ≠ m + k) → h'.2.2.1 a = h.2.2.1 a) ∧ ∀ j, j ∉ J → zI h' m j = zI h m j
theorem zOf.rf {m : Nat} {L J : List Nat} {h : zM} : zOf m L J h h := ⟨rfl, rfl, rfl, fun _ _ _ => rfl, fun _ _ => rfl⟩
theorem zOf.tr {m : Nat} {L J : List Nat} {h h1 h2 : zM} (a : zOf m L J h h1) (b : zOf m L J h1 h2) : zOf m L J h h2 :=
  ⟨b.1.trans a.1, b.2.1.trans a.2.1, b.2.2.1.trans a.2.2.1, fun q x y => (b.2.2.2.1 q x y).trans (a.2.2.2.1 q x y), fun j hj => (b.2.2.2.2 j hj).trans (a.2.2.2.2 j hj)⟩
theorem zOf.wide {m : Nat} {L J L' J' : List Nat} {h h' : zM} (a : zOf m L J h h') (h1 : ∀ k ∈ L, k ∈ L') (h2 : ∀ j ∈ J, j ∈ J') : zOf m L' J' h h' :=
  ⟨a.1, a.2.1, a.2.2.1, fun q x y => a.2.2.2.1 q x (fun k hk => y k (h1 k hk)), fun j hj => a.2.2.2.2 j (fun z => hj (h2 j z))⟩
theorem zOf.K {m : Nat} {L J : List Nat} {h h' : zM} (a : zOf m L J h h') (q : Nat) : zK h' q = zK h q := by unfold zK; rw [a.2.1]
theorem zOf.N {m : Nat} {L J : List Nat} {h h' : zM} (a : zOf m L J h h') (q : Nat) : zN h' q = zN h q := by unfold zN; rw [a.2.1]
theorem zOf.F {m : Nat} {L J : List Nat} {h h' : zM} (a : zOf m L J h h') (q j : Nat) : zF h' q j = zF h q j := by unfold zF; rw [a.2.2.1]
theorem zOf.C {m : Nat} {L J : List Nat} {h h' : zM} (a : zOf m L J h h') {c : Nat} (h0 : 0 < c) (hc : c ∉ L) (j : Nat) : zI h' (m + c) j = zI h (m + c) j := by
  unfold zI
  rw [a.2.2.2.1 (m + c) (by omega) (fun k hk e => hc (by rw [show c = k by omega]; exact hk))]
theorem zOf.J {m : Nat} {L J : List Nat} {h h' : zM} (a : zOf m L J h h') {j : Nat} (hj : j ∉ J) : zI h' m j = zI h m j := a.2.2.2.2 j hj
theorem zOf.lay {m : Nat} {L J : List Nat} {h h' : zM} (a : zOf m L J h h') (l : MLay h m) : MLay h' m :=
  ⟨by rw [a.K]; exact l.1, fun e he => ⟨by rw [a.F]; exact (l.2 e he).1, by rw [a.K]; exact (l.2 e he).2.1, by rw [a.N]; exact (l.2 e he).2.2⟩⟩
theorem zOf.gr {m : Nat} {L J : List Nat} {h h' : zM} (a : zOf m L J h h') (hL : ∀ k ∈ L, k < 74) : zGr m (m + 74) h h' :=
  ⟨a.1, a.2.1, fun q hq => ⟨a.2.2.2.1 q (by omega) (fun k hk => by have := hL k hk; omega), by rw [a.2.2.1]⟩⟩
theorem MMs.o {m : Nat} {h h' : zM} {Ms : Nat → zMa} {L J : List Nat} (d : MMs h m Ms) (a : zOf m L J h h') (hL : ∀ k, 1 ≤ k → k ≤ 8 → k ∉ L) : MMs h' m Ms := by
  refine ⟨a.lay d.1, fun t ht => ?_⟩
  obtain ⟨a1, a2, a3, a4⟩ := d.2 t ht
  have e : ∀ c, 1 ≤ c → c ≤ 8 → ∀ j, zI h' (m + c) j = zI h (m + c) j := fun c h1 h2 j => a.C (by omega) (hL c h1 h2) j
  exact ⟨by rw [e 1 (by omega) (by omega)]; exact a1, by rw [e 4 (by omega) (by omega)]; exact a2, fun q hq => by rw [e 2 (by omega) (by omega), e 3 (by omega) (by omega)]; exact a3 q hq, fun i hi => by rw [e 5 (by omega) (by omega), e 6 (by omega) (by omega), e 7 (by omega) (by omega), e 8 (by omega) (by omega)]; exact a4 i hi⟩
theorem zOf_sI {m : Nat} {L J : List Nat} {k i : Nat} {x : Int32} {h : zM} (hk : k ∈ L) (h0 : 0 < k) : zOf m L J h (zsI h (m + k) i x) :=
  ⟨rfl, rfl, rfl, fun q _ hq => va_up_ne _ _ (hq k hk), fun j _ => zI_sI_a (by omega)⟩
theorem zOf_pI {m : Nat} {L J : List Nat} {j : Nat} {x : Int32} {h : zM} (hj : j ∈ J) : zOf m L J h (zsI h m j x) :=
  ⟨rfl, rfl, rfl, fun q hq _ => va_up_ne _ _ hq, fun i hi => zI_sI_k (fun e => hi (by rw [e]; exact hj))⟩
theorem zOf_Wr {m : Nat} {L J : List Nat} {k p n : Nat} {f : Nat → Int32} {h : zM} (hk : k ∈ L) (h0 : 0 < k) : zOf m L J h (zWr h (m + k) p n f) :=
  ⟨rfl, rfl, rfl, fun q _ hq => va_up_ne _ _ (hq k hk), fun j _ => zI_Wr_a (by omega)⟩
/-- the word w stands in the array a from the place p on -/
def Rw (h : zM) (a p : Nat) (w : zWo) : Prop := ∀ j, j < w.length → zI h a (p + j) = w.getD j 0
theorem Rw.of {h h' : zM} {a p : Nat} {w : zWo} (d : Rw h a p w) (e : ∀ j, j < w.length → zI h' a (p + j) = zI h a (p + j)) : Rw h' a p w := fun j hj => by rw [e j hj]; exact d j hj
theorem Rw.nil {h : zM} {a p : Nat} : Rw h a p [] := fun j hj => by cases hj
/-- letters of words are 1 to 9 -/
def LOk (w : zWo) : Prop := ∀ x ∈ w, ∃ d, 1 ≤ d ∧ d ≤ 9 ∧ x = nI d
theorem LOk.at {w : zWo} (h : LOk w) {j : Nat} (hj : j < w.length) : ∃ d, 1 ≤ d ∧ d ≤ 9 ∧ w.getD j 0 = nI d := by
  have := h w[j] (List.getElem_mem hj)
  rw [List.getD_eq_getElem?_getD, List.getElem?_eq_getElem hj]
  exact this
theorem LOk.app {w v : zWo} (a : LOk w) (b : LOk v) : LOk (w ++ v) := fun x hx => by
  rcases List.mem_append.mp hx with q | q
  · exact a x q
  · exact b x q
theorem LOk.nil : LOk [] := fun x hx => by cases hx
theorem LOk.take {w : zWo} (a : LOk w) (n : Nat) : LOk (w.take n) := fun x hx => a x (List.mem_of_mem_take hx)
theorem LOk.drop {w : zWo} (a : LOk w) (n : Nat) : LOk (w.drop n) := fun x hx => a x (List.mem_of_mem_drop hx)
theorem byte_ok : ∀ d, 1 ≤ d → d ≤ 9 → (nI d).toInt8.toInt32 = nI d := by
  intro d h1 h2
  rcases (show d = 1 ∨ d = 2 ∨ d = 3 ∨ d = 4 ∨ d = 5 ∨ d = 6 ∨ d = 7 ∨ d = 8 ∨ d = 9 by omega) with rfl | rfl | rfl | rfl | rfl | rfl | rfl | rfl | rfl <;> decide
theorem LOk.byte {w : zWo} (h : LOk w) {j : Nat} (hj : j < w.length) : (w.getD j 0).toInt8.toInt32 = w.getD j 0 := by
  obtain ⟨d, h1, h2, e⟩ := h.at hj
  rw [e]
  exact byte_ok d h1 h2
theorem LOk.ne {w : zWo} (h : LOk w) {j : Nat} (hj : j < w.length) : w.getD j 0 ≠ -1 := by
  obtain ⟨d, h1, h2, e⟩ := h.at hj
  rw [e]
  exact nneg (by omega)
theorem lf_dig : ∀ (f most x k : Nat), lf f most x = some k → x < 10 ^ f → ∀ j, j < k → 1 ≤ x / 10 ^ j % 10 ∧ x / 10 ^ j % 10 ≤ most
  | 0, most, x, k, e, hx, j, hj => by cases e; omega
  | f + 1, most, x, k, e, hx, j, hj => by
    unfold lf at e
    split at e
    · cases e; omega
    · rename_i c
      split at e
      · cases e
      · rename_i c2
        obtain ⟨i, hi, rfl⟩ := Option.map_eq_some_iff.mp e
        cases j with
        | zero => simp; omega
        | succ j =>
          have := lf_dig f most (x / 10) i hi (by rw [Nat.pow_succ] at hx; omega) j (by omega)
          rw [Nat.pow_succ, Nat.mul_comm, ← Nat.div_div_eq_div_mul]
          exact this
theorem dgs_ok {most x k : Nat} (hm : most ≤ 9) (h : lf 11 most x = some k) (hx : x < 10 ^ 11) : LOk (dgs x) ∧ (dgs x).length = k := by
  have hn : nd x = k := lf_nd 11 most x k h hx
  refine ⟨fun y hy => ?_, by unfold dgs; rw [dl_len]; exact hn⟩
  obtain ⟨j, hj, rfl⟩ := List.mem_iff_getElem.mp hy
  have hj2 : j < k := by unfold dgs at hj; rw [dl_len, hn] at hj; exact hj
  have e : (dgs x)[j] = (dgs x).getD j 0 := by rw [List.getD_eq_getElem?_getD, List.getElem?_eq_getElem hj]; rfl
  rw [e]
  unfold dgs
  rw [hn, dl_at k x j hj2]
  have := lf_dig 11 most x k h hx (k - 1 - j) (by omega)
  exact ⟨_, this.1, by omega, rfl⟩
theorem wOk.dig {w : Nat} (h : wOk w) : LOk (dgs w) := by
  obtain ⟨k, h1, h2, h3⟩ := h
  exact (dgs_ok (by decide) h2 h3).1
theorem wOk.ltr {w : Nat} (h : wOk w) : ltI 9 (nI w) = nI (dgs w).length := by
  have h9 := h.lt
  obtain ⟨k, h1, h2, h3⟩ := h
  unfold ltI
  rw [if_neg (nI_pos (by omega)), nI_clamp (by omega), h2, (dgs_ok (by decide) h2 h3).2]
/-- the reference's letter -/
theorem s_mletter {h : zM} {x n k : Nat} (hx : x < 2 ^ 31) (hk : k < n) (hn : n < 100) : zf nX12_letter [.inl (nI x), .inl (nI n), .inl (nI k)] h = some ((dl n x).getD k 0, 0, h) := by
  rw [e_X12_letter, show nI n - 1 = nI (n - 1) by rw [n1, pk_sub (by omega)]]
  obtain ⟨h', e, rfl⟩ := zlp (P := fun _ g => g = h) (g := fun i g => zm_X12_letter 7 [some (.inl (nI x)), some (.inl (nI n)), some (.inl (nI k)), some (.inl (nI (x / 10 ^ i))), some (.inl (nI (n - 1 - i)))] [] g) (n := n - 1 - k) (fun i g hi hg => ⟨g, by
    have hd : x / 10 ^ i < 2 ^ 31 := Nat.lt_of_le_of_lt (Nat.div_le_self _ _) hx
    rw [e_X12_letter_7, if_pos ((nI_ltI (by omega) (by omega)).mpr (by omega)), if_neg z10, nI_lit10, pk_div hd (by decide) (by decide), Nat.div_div_eq_div_mul, ← Nat.pow_succ, show n - 1 - i = (n - 1 - (i + 1)) + 1 by omega, nI_dec], hg⟩) 0 h (Nat.zero_le _) rfl
  rw [Nat.pow_zero, Nat.div_one, Nat.sub_zero] at e
  have hd : x / 10 ^ (n - 1 - k) < 2 ^ 31 := Nat.lt_of_le_of_lt (Nat.div_le_self _ _) hx
  rw [e, e_X12_letter_7, if_neg (by rw [nI_ltI (by omega) (by omega)]; omega), if_neg z10, nI_lit10, pk_rem hd (by decide) (by decide), dl_at n x k hk]
theorem getD_app_l {w v : zWo} {j : Nat} (h : j < w.length) : (w ++ v).getD j 0 = w.getD j 0 := by rw [List.getD_eq_getElem?_getD, List.getElem?_append_left h, ← List.getD_eq_getElem?_getD]
theorem getD_app_r {w v : zWo} {j : Nat} : (w ++ v).getD (w.length + j) 0 = v.getD j 0 := by rw [List.getD_eq_getElem?_getD, List.getElem?_append_right (by omega), show w.length + j - w.length = j by omega, ← List.getD_eq_getElem?_getD]
theorem Rw.app {h : zM} {a p : Nat} {w v : zWo} (d : Rw h a p w) (e : Rw h a (p + w.length) v) : Rw h a p (w ++ v) := fun j hj => by
  rw [List.length_append] at hj
  by_cases c : j < w.length
  · rw [getD_app_l c]; exact d j c
  · obtain ⟨i, rfl⟩ : ∃ i, j = w.length + i := ⟨j - w.length, by omega⟩
    rw [getD_app_r, ← Nat.add_assoc]
    exact e i (by omega)
/-- one word, told by its letters -/
theorem Rw.inj {h : zM} {a p : Nat} {w v : zWo} (d : Rw h a p w) (e : Rw h a p v) (hl : w.length = v.length) : w = v := by
  apply List.ext_getElem hl
  intro i h1 h2
  have := (d i h1).symm.trans (e i h2)
  simpa [List.getD_eq_getElem?_getD, h1, h2] using this
