/-! Words of the class: what each method answers and does. -/
/-- no int outside lo .. hi - 1 has changed, no reference anywhere, no cell is new -/
def zFr (lo hi : Nat) (h h' : zM) : Prop := h'.1 = h.1 ∧ h'.2.1 = h.2.1 ∧ ∀ a, (¬ (lo ≤ a ∧ a < hi) → h'.2.2.1 a = h.2.2.1 a) ∧ h'.2.2.2 a = h.2.2.2 a
theorem zFr.rf {lo hi : Nat} {h : zM} : zFr lo hi h h := ⟨rfl, rfl, fun _ => ⟨fun _ => rfl, rfl⟩⟩
theorem zFr.tr {lo hi : Nat} {h h1 h2 : zM} (a : zFr lo hi h h1) (b : zFr lo hi h1 h2) : zFr lo hi h h2 :=
  ⟨b.1.trans a.1, b.2.1.trans a.2.1, fun q => ⟨fun hq => ((b.2.2 q).1 hq).trans ((a.2.2 q).1 hq), (b.2.2 q).2.trans (a.2.2 q).2⟩⟩
theorem zFr.wide {lo hi lo' hi' : Nat} {h h' : zM} (a : zFr lo hi h h') (h1 : lo' ≤ lo) (h2 : hi ≤ hi') : zFr lo' hi' h h' :=
  ⟨a.1, a.2.1, fun q => ⟨fun hq => (a.2.2 q).1 (fun z => hq ⟨by omega, by omega⟩), (a.2.2 q).2⟩⟩
theorem zFr.K {lo hi : Nat} {h h' : zM} (a : zFr lo hi h h') (q : Nat) : zK h' q = zK h q := by unfold zK; rw [a.2.1]
theorem zFr.N {lo hi : Nat} {h h' : zM} (a : zFr lo hi h h') (q : Nat) : zN h' q = zN h q := by unfold zN; rw [a.2.1]
theorem zFr.I {lo hi : Nat} {h h' : zM} (a : zFr lo hi h h') {q : Nat} (hq : ¬ (lo ≤ q ∧ q < hi)) (k : Nat) : zI h' q k = zI h q k := by unfold zI; rw [(a.2.2 q).1 hq]
theorem zFr.F {lo hi : Nat} {h h' : zM} (a : zFr lo hi h h') (q k : Nat) : zF h' q k = zF h q k := by unfold zF; rw [(a.2.2 q).2]
theorem zFr_sI {lo hi a k : Nat} {x : Int32} {h : zM} (h1 : lo ≤ a) (h2 : a < hi) : zFr lo hi h (zsI h a k x) :=
  ⟨rfl, rfl, fun q => ⟨fun hq => va_up_ne _ _ (fun e => hq (by subst e; exact ⟨h1, h2⟩)), rfl⟩⟩
-- one cell's places
theorem zI_sI {h : zM} {a k : Nat} {x : Int32} : zI (zsI h a k x) a k = x := by simp [zI, zsI, va_up_self, upd]
theorem zI_sI_k {h : zM} {a k j : Nat} {x : Int32} (hj : j ≠ k) : zI (zsI h a k x) a j = zI h a j := by simp [zI, zsI, va_up_self, upd, hj]
theorem zI_sI_a {h : zM} {a b k j : Nat} {x : Int32} (hb : b ≠ a) : zI (zsI h a k x) b j = zI h b j := by simp [zI, zsI, va_up_ne _ _ hb]
theorem zF_sI {h : zM} {a b k j : Nat} {x : Int32} : zF (zsI h a k x) b j = zF h b j := rfl
theorem zK_sI {h : zM} {a b k : Nat} {x : Int32} : zK (zsI h a k x) b = zK h b := rfl
theorem zN_sI {h : zM} {a b k : Nat} {x : Int32} : zN (zsI h a k x) b = zN h b := rfl
theorem zI_sF {h : zM} {a b k j x : Nat} : zI (zsF h a k x) b j = zI h b j := rfl
theorem zK_sF {h : zM} {a b k x : Nat} : zK (zsF h a k x) b = zK h b := rfl
theorem zN_sF {h : zM} {a b k x : Nat} : zN (zsF h a k x) b = zN h b := rfl
-- the partial reads and writes where they stand
theorem zgI_ok {h : zM} {a c k : Nat} (hk : zK h a = c + 1) : zgI h a c k = some (zI h a k) := if_pos hk
theorem zgF_ok {h : zM} {a c k : Nat} (hk : zK h a = c + 1) : zgF h a c k = some (zF h a k) := if_pos hk
theorem zpI_ok {h : zM} {a c k : Nat} {x : Int32} (hk : zK h a = c + 1) : zpI h a c k x = some (zsI h a k x) := if_pos hk
theorem zpF_ok {h : zM} {a c k x : Nat} (hk : zK h a = c + 1) : zpF h a c k x = some (zsF h a k x) := if_pos hk
theorem zpZ_ok {h : zM} {a c k : Nat} {x : Int32} (hk : zK h a = c + 1) (hx : x = 0 ∨ x = 1) : zpZ h a c k x = some (zsI h a k x) := if_pos ⟨hk, hx⟩
theorem zix {i n : Nat} (hi : i < n) (hn : n < 2 ^ 31) : ¬ (nI i < 0 ∨ n ≤ (nI i).toNatClampNeg) := nI_in hi hn
theorem zia_ok {h : zM} {a i : Nat} (hk : zK h a = 101) (hi : i < zN h a) (hn : zN h a < 2 ^ 31) : zia h a (nI i) = some (zI h a i) := by
  have := nI_clamp (n := i) (by omega)
  unfold zia
  rw [if_pos ⟨Or.inl hk, zix hi hn⟩, this]
theorem zis_ok {h : zM} {a i : Nat} {x : Int32} (hk : zK h a = 101) (hi : i < zN h a) (hn : zN h a < 2 ^ 31) : zis h a (nI i) x = some (zsI h a i x) := by
  have := nI_clamp (n := i) (by omega)
  unfold zis
  rw [if_pos ⟨hk, zix hi hn⟩, this]
theorem zal_ok {h : zM} {a : Nat} (hk : 101 ≤ zK h a ∧ zK h a < 108) : zal h a = some (nI (zN h a)) := if_pos (Or.inl hk)
theorem zb0 {h : zM} : zb 0 h = some (0, 0, h) := if_pos (Or.inl rfl)
theorem zb1 {h : zM} : zb 1 h = some (1, 0, h) := if_pos (Or.inr rfl)
theorem zif_ok {c : Prop} [Decidable c] {o : Option zR} (hc : c) : zif c o = o := if_pos hc
/-- the word w stands at a, in an array of n places behind it -/
def Wd (h : zM) (a n : Nat) (w : List Int32) : Prop := zK h a = 11 ∧ zF h a 0 = a + 1 ∧ zK h (a + 1) = 101 ∧ zN h (a + 1) = n ∧ n < 2 ^ 30 ∧ zI h a 1 = nI w.length ∧ w.length ≤ n ∧ ∀ i, i < w.length → zI h (a + 1) i = w.getD i 0
theorem Wd.keep {lo hi : Nat} {h h' : zM} {a n : Nat} {w : List Int32} (d : Wd h a n w) (f : zFr lo hi h h') (hd : a + 1 < lo ∨ hi ≤ a) : Wd h' a n w := by
  obtain ⟨d1, d2, d3, d4, d5, d6, d7, d8⟩ := d
  have e1 : ¬ (lo ≤ a ∧ a < hi) := by omega
  have e2 : ¬ (lo ≤ a + 1 ∧ a + 1 < hi) := by omega
  exact ⟨by rw [f.K]; exact d1, by rw [f.F]; exact d2, by rw [f.K]; exact d3, by rw [f.N]; exact d4, d5, by rw [f.I e1]; exact d6, d7, fun i hi => by rw [f.I e2]; exact d8 i hi⟩
theorem Wd.inj {h : zM} {a n m : Nat} {w v : List Int32} (d : Wd h a n w) (e : Wd h a m v) : w = v := by
  obtain ⟨d1, d2, d3, d4, d5, d6, d7, d8⟩ := d
  obtain ⟨e1, e2, e3, e4, e5, e6, e7, e8⟩ := e
  have hl : w.length = v.length := (nI_eq (by omega) (by omega)).mp (d6.symm.trans e6)
  apply List.ext_getElem hl
  intro i h1 h2
  have := (d8 i h1).symm.trans (e8 i h2)
  simpa [List.getD_eq_getElem?_getD, h1, h2] using this
theorem Wd.len {h : zM} {a n : Nat} {w : List Int32} (d : Wd h a n w) : zgI h a 10 1 = some (nI w.length) := (zgI_ok d.1).trans (congrArg some d.2.2.2.2.2.1)
theorem Wd.arr {h : zM} {a n : Nat} {w : List Int32} (d : Wd h a n w) : zgF h a 10 0 = some (a + 1) := (zgF_ok d.1).trans (congrArg some d.2.1)
theorem Wd.room {h : zM} {a n : Nat} {w : List Int32} (d : Wd h a n w) : zal h (a + 1) = some (nI n) := by
  rw [zal_ok (by have := d.2.2.1; omega), d.2.2.2.1]
theorem Wd.at {h : zM} {a n i : Nat} {w : List Int32} (d : Wd h a n w) (hi : i < w.length) : zia h (a + 1) (nI i) = some (w.getD i 0) := by
  obtain ⟨d1, d2, d3, d4, d5, d6, d7, d8⟩ := d
  rw [zia_ok d3 (by omega) (by omega), d8 i hi]
/-- k-th letter, NONE outside -/
def wAt (w : List Int32) (k : Int32) : Int32 := if k < 0 then -1 else if k < nI w.length then w.getD k.toNatClampNeg 0 else -1
theorem s_clear {h : zM} {a n : Nat} {w : List Int32} (d : Wd h a n w) : ∃ h', zf nX10_clear [.inr a] h = some (0, 0, h') ∧ zFr a (a + 2) h h' ∧ Wd h' a n [] := by
  obtain ⟨d1, d2, d3, d4, d5, d6, d7, d8⟩ := d
  refine ⟨zsI h a 1 0, ?_, zFr_sI (Nat.le_refl _) (by omega), d1, d2, d3, d4, d5, ?_, Nat.zero_le _, fun i hi => absurd hi (Nat.not_lt_zero _)⟩
  · rw [e_X10_clear, zpI_ok d1]; rfl
  · rw [zI_sI]; rfl
theorem s_letterAt {h : zM} {a n : Nat} {w : List Int32} (d : Wd h a n w) (k : Int32) : zf nX10_letterAt [.inr a, .inl k] h = some (wAt w k, 0, h) := by
  rw [e_X10_letterAt]
  unfold wAt
  by_cases hk : k < 0
  · simp [hk]
  · rw [if_neg hk, if_neg hk, d.len, Option.bind_some]
    by_cases hl : k < nI w.length
    · obtain ⟨j, hj, rfl⟩ := nI_of hk
      have hjw : j < w.length := (nI_ltI hj (by have := d.2.2.2.2.1; have := d.2.2.2.2.2.2.1; omega)).mp hl
      rw [if_pos hl, if_pos hl, d.arr, Option.bind_some, d.at hjw, Option.bind_some, nI_clamp hj]
    · rw [if_neg hl, if_neg hl]
theorem Wd.small {h : zM} {a n : Nat} {w : List Int32} (d : Wd h a n w) : w.length < 2 ^ 30 ∧ n < 2 ^ 30 ∧ w.length ≤ n := ⟨by have := d.2.2.2.2.1; have := d.2.2.2.2.2.2.1; omega, d.2.2.2.2.1, d.2.2.2.2.2.2.1⟩
theorem getD_lt {w : List Int32} {i : Nat} (h : i < w.length) : w[i]? = some (w.getD i 0) := by simp [List.getD_eq_getElem?_getD, h]
theorem s_add {h : zM} {a n : Nat} {w : List Int32} (d : Wd h a n w) (x : Int32) : ∃ h', zf nX10_add [.inr a, .inl x] h = some (0, 0, h') ∧ zFr a (a + 2) h h' ∧ Wd h' a n ((w ++ [x]).take n) := by
  have d' := d
  obtain ⟨d1, d2, d3, d4, d5, d6, d7, d8⟩ := d
  rw [e_X10_add, d'.len, Option.bind_some, d'.arr, Option.bind_some, d'.room, Option.bind_some]
  by_cases hl : w.length < n
  · rw [List.take_of_length_le (by simp; omega), if_pos ((nI_ltI (by omega) (by omega)).mpr hl)]
    simp only [Option.bind_some]
    rw [zis_ok d3 (by omega) (by omega), Option.bind_some, zgI_ok (by rw [zK_sI]; exact d1), Option.bind_some, zpI_ok (by rw [zK_sI]; exact d1), Option.bind_some]
    refine ⟨_, rfl, (zFr_sI (by omega) (by omega)).tr (zFr_sI (by omega) (by omega)), d1, d2, d3, d4, d5, ?_, by simp; omega, fun i hi => ?_⟩
    · rw [zI_sI, zI_sI_a (by omega), d6]
      simp [nI_1]
    · rw [zI_sI_a (by omega)]
      by_cases hi2 : i = w.length
      · subst hi2
        rw [zI_sI]
        simp
      · rw [zI_sI_k hi2]
        have hi3 : i < w.length := by simp at hi; omega
        rw [d8 i hi3]
        simp [List.getD_eq_getElem?_getD, List.getElem?_append_left hi3]
  · rw [if_neg (by rw [nI_ltI (by omega) (by omega)]; exact hl)]
    rw [List.take_append_of_le_length (by omega), List.take_of_length_le (by omega)]
    exact ⟨h, rfl, zFr.rf, d'⟩
/-- how many first places are alike -/
def lcp : List Int32 → List Int32 → Nat
  | x :: xs, y :: ys => if x = y then lcp xs ys + 1 else 0
  | _, _ => 0
theorem lcp_spec : ∀ (w v : List Int32) (k : Nat), k ≤ lcp w v → ((k < w.length ∧ k < v.length ∧ w.getD k 0 = v.getD k 0) ↔ k < lcp w v)
  | [], v, k, h => by simp [lcp]
  | x :: xs, [], k, h => by simp [lcp]
  | x :: xs, y :: ys, 0, h => by
    by_cases hxy : x = y <;> simp [lcp, hxy]
  | x :: xs, y :: ys, k + 1, h => by
    by_cases hxy : x = y
    · rw [lcp, if_pos hxy] at h ⊢
      have := lcp_spec xs ys k (by omega)
      simp only [List.length_cons, Nat.add_lt_add_iff_right, List.getD_cons_succ]
      exact this
    · rw [lcp, if_neg hxy] at h
      omega
theorem lcp_le (w v : List Int32) : lcp w v ≤ w.length ∧ lcp w v ≤ v.length := by
  induction w generalizing v with
  | nil => simp [lcp]
  | cons x xs ih =>
    cases v with
    | nil => simp [lcp]
    | cons y ys =>
      by_cases hxy : x = y
      · have := ih ys
        simp [lcp, hxy]; omega
      · simp [lcp, hxy]
theorem s_commonWith_loop {h : zM} {a b n m : Nat} {w v : List Int32} (d : Wd h a n w) (e : Wd h b m v) : ∀ (f k : Nat), k ≤ lcp w v → lcp w v - k ≤ f → zm_X10_commonWith 2 [some (.inr a), some (.inr b), some (.inl (nI k))] [] h = some (nI (lcp w v), 0, h) := by
  have hs := lcp_le w v
  have h1 := d.small
  have h2 := e.small
  intro f
  induction f with
  | zero =>
    intro k hk hf
    have hkk : k = lcp w v := by omega
    have hsp := lcp_spec w v k hk
    rw [e_X10_commonWith_2, d.len, Option.bind_some]
    by_cases c1 : k < w.length
    · rw [if_pos ((nI_ltI (by omega) (by omega)).mpr c1), e.len, Option.bind_some]
      by_cases c2 : k < v.length
      · rw [if_pos ((nI_ltI (by omega) (by omega)).mpr c2), d.arr, Option.bind_some, d.at c1, Option.bind_some, e.arr, Option.bind_some, e.at c2, Option.bind_some]
        rw [if_neg (fun c3 => absurd (hsp.mp ⟨c1, c2, c3⟩) (by omega)), hkk]
      · rw [if_neg (by rw [nI_ltI (by omega) (by omega)]; exact c2), hkk]
    · rw [if_neg (by rw [nI_ltI (by omega) (by omega)]; exact c1), hkk]
  | succ f ih =>
    intro k hk hf
    have hsp := lcp_spec w v k hk
    by_cases hkk : k = lcp w v
    · exact ih k hk (by omega)
    · obtain ⟨c1, c2, c3⟩ := hsp.mpr (by omega)
      rw [e_X10_commonWith_2, d.len, Option.bind_some, if_pos ((nI_ltI (by omega) (by omega)).mpr c1), e.len, Option.bind_some, if_pos ((nI_ltI (by omega) (by omega)).mpr c2), d.arr, Option.bind_some, d.at c1, Option.bind_some, e.arr, Option.bind_some, e.at c2, Option.bind_some, if_pos c3, nI_1]
      exact ih (k + 1) (by omega) (by omega)
theorem s_commonWith {h : zM} {a b n m : Nat} {w v : List Int32} (d : Wd h a n w) (e : Wd h b m v) : zf nX10_commonWith [.inr a, .inr b] h = some (nI (lcp w v), 0, h) := by
  rw [e_X10_commonWith]
  exact s_commonWith_loop d e (lcp w v) 0 (Nat.zero_le _) (by omega)
theorem lcp_all {w v : List Int32} (hl : w.length = v.length) : lcp w v = w.length ↔ w = v := by
  induction w generalizing v with
  | nil => cases v with
    | nil => simp [lcp]
    | cons y ys => simp at hl
  | cons x xs ih =>
    cases v with
    | nil => simp at hl
    | cons y ys =>
      simp at hl
      by_cases hxy : x = y
      · simp [lcp, hxy, ih hl]
      · simp [lcp, hxy]
theorem s_isAlike_loop {h : zM} {a b n m : Nat} {w v : List Int32} (d : Wd h a n w) (e : Wd h b m v) (hl : w.length = v.length) : ∀ (f k : Nat), k ≤ lcp w v → w.length - k ≤ f → zm_X10_isAlike 15 [some (.inr a), some (.inr b), some (.inl (nI k))] [] h = some (if w = v then 1 else 0, 0, h) := by
  have hs := lcp_le w v
  have h1 := d.small
  have h2 := e.small
  intro f
  induction f with
  | zero =>
    intro k hk hf
    have hkk : lcp w v = w.length := by omega
    rw [e_X10_isAlike_15, d.len, Option.bind_some, if_neg (by rw [nI_ltI (by omega) (by omega)]; omega), zb1, if_pos ((lcp_all hl).mp hkk)]
  | succ f ih =>
    intro k hk hf
    have hsp := lcp_spec w v k hk
    by_cases c1 : k < w.length
    · have c2 : k < v.length := by omega
      rw [e_X10_isAlike_15, d.len, Option.bind_some, if_pos ((nI_ltI (by omega) (by omega)).mpr c1), d.arr, Option.bind_some, d.at c1, Option.bind_some, e.arr, Option.bind_some, e.at c2, Option.bind_some]
      by_cases c3 : w.getD k 0 = v.getD k 0
      · rw [if_pos c3, nI_1]
        exact ih (k + 1) (hsp.mp ⟨c1, c2, c3⟩) (by omega)
      · rw [if_neg c3, zb0, if_neg (fun q => c3 (by rw [q]))]
    · have hkk : lcp w v = w.length := by omega
      rw [e_X10_isAlike_15, d.len, Option.bind_some, if_neg (by rw [nI_ltI (by omega) (by omega)]; omega), zb1, if_pos ((lcp_all hl).mp hkk)]
theorem s_isAlike {h : zM} {a b n m : Nat} {w v : List Int32} (d : Wd h a n w) (e : Wd h b m v) : zf nX10_isAlike [.inr a, .inr b] h = some (if w = v then 1 else 0, 0, h) := by
  have h1 := d.small
  have h2 := e.small
  rw [e_X10_isAlike, d.len, Option.bind_some, e.len, Option.bind_some]
  by_cases hl : w.length = v.length
  · rw [if_pos (by rw [hl])]
    exact s_isAlike_loop d e hl w.length 0 (Nat.zero_le _) (by omega)
  · rw [if_neg (by rw [nI_eq (by omega) (by omega)]; exact hl), zb0, if_neg (fun q => hl (by rw [q]))]
theorem s_compare (x y : Int32) (h : zM) : zf nJ6_compare_7cf53 [.inl x, .inl y] h = some (if x < y then -1 else if x = y then 0 else 1, 0, h) := by
  rw [e_J6_compare_7cf53]
  split
  · rfl
  · split <;> rfl
theorem s_min (x y : Int32) (h : zM) : zf nJ9_min_7cf53 [.inl x, .inl y] h = some (if y < x then y else x, 0, h) := by
  rw [e_J9_min_7cf53]; split <;> rfl
theorem s_max (x y : Int32) (h : zM) : zf nJ9_max_7cf53 [.inl x, .inl y] h = some (if x < y then y else x, 0, h) := by
  rw [e_J9_max_7cf53]; split <;> rfl
theorem wAt_nI {w : List Int32} {k : Nat} (hw : w.length < 2 ^ 30) (hk : k < 2 ^ 30) : wAt w (nI k) = if k < w.length then w.getD k 0 else -1 := by
  unfold wAt
  rw [if_neg (nI_pos (by omega)), nI_clamp (by omega)]
  by_cases c : k < w.length
  · rw [if_pos c, if_pos ((nI_ltI (by omega) (by omega)).mpr c)]
  · rw [if_neg c, if_neg (by rw [nI_ltI (by omega) (by omega)]; exact c)]
/-- -1, 0, 1: shorter ones are less; of one length the first place that is unlike tells -/
def wcmp (w v : List Int32) : Int32 := if w.length < v.length then -1 else if v.length < w.length then 1 else
  if lcp w v < w.length then (if w.getD (lcp w v) 0 < v.getD (lcp w v) 0 then -1 else 1) else 0
theorem s_compareWith {h : zM} {a b n m : Nat} {w v : List Int32} (d : Wd h a n w) (e : Wd h b m v) : zf nX10_compareWith [.inr a, .inr b] h = some (wcmp w v, 0, h) := by
  have h1 := d.small
  have h2 := e.small
  have hs := lcp_le w v
  rw [e_X10_compareWith, d.len, Option.bind_some, e.len, Option.bind_some]
  unfold wcmp
  by_cases hl : w.length = v.length
  · rw [if_pos (by rw [hl]), zif_ok d.1, s_commonWith d e, Option.bind_some, zif_ok d.1]
    dsimp only
    rw [s_letterAt d, Option.bind_some, zif_ok e.1]
    dsimp only
    rw [s_letterAt e, Option.bind_some]
    dsimp only
    rw [s_compare, Option.bind_some, wAt_nI h1.1 (by omega), wAt_nI h2.1 (by omega), if_neg (show ¬ w.length < v.length by omega), if_neg (show ¬ v.length < w.length by omega)]
    by_cases hc : lcp w v < w.length
    · rw [if_pos hc, if_pos (show lcp w v < v.length by omega), if_pos hc]
      have hne : w.getD (lcp w v) 0 ≠ v.getD (lcp w v) 0 := fun q => absurd ((lcp_spec w v _ (Nat.le_refl _)).mp ⟨hc, by omega, q⟩) (by omega)
      rw [if_neg hne]
    · rw [if_neg hc, if_neg (show ¬ lcp w v < v.length by omega), if_neg hc]
      rfl
  · rw [if_neg (by rw [nI_eq (by omega) (by omega)]; exact hl)]
    simp only [Option.bind_some]
    by_cases hlt : w.length < v.length
    · rw [if_pos ((nI_ltI (by omega) (by omega)).mpr hlt), if_pos hlt]
    · rw [if_neg (by rw [nI_ltI (by omega) (by omega)]; exact hlt), if_neg hlt, if_pos (by omega)]
/-- the digits of a number, the highest first -/
def zdig : Nat → Nat → List Int32
  | 0, _ => []
  | f + 1, n => if n = 0 then [] else zdig f (n / 10) ++ [nI (n % 10)]
def dig (n : Nat) : List Int32 := zdig 11 n
theorem s_copy_in {h : zM} {a b n m : Nat} {w v : List Int32} (d : Wd h a n w) (e : Wd h b m v) (hab : a + 1 < b ∨ b + 1 < a) (k c : Nat) (hk : k ≤ w.length) (hc : c ≤ v.length) (hr : k + c ≤ n) :
    ∃ h', zcp h (b + 1) 0 (a + 1) (nI k) (nI c) = some h' ∧ zFr a (a + 2) h h' ∧ zI h' a 1 = zI h a 1 ∧ zF h' a 0 = zF h a 0 ∧ (∀ i, i < k → zI h' (a + 1) i = w.getD i 0) ∧ ∀ i, i < c → zI h' (a + 1) (k + i) = v.getD i 0 := by
  have h1 := d.small
  have h2 := e.small
  obtain ⟨d1, d2, d3, d4, d5, d6, d7, d8⟩ := d
  obtain ⟨e1, e2, e3, e4, e5, e6, e7, e8⟩ := e
  have ec : (nI c).toNatClampNeg = c := nI_clamp (by omega)
  have ek : (nI k).toNatClampNeg = k := nI_clamp (by omega)
  have e0 : (0 : Int32).toNatClampNeg = 0 := rfl
  refine ⟨_, if_pos ⟨⟨e3, d3⟩, ⟨by decide, nI_pos (by omega), nI_pos (by omega)⟩, by rw [ec, e0, e4]; omega, by rw [ec, ek, d4]; omega⟩, ⟨rfl, rfl, fun q => ⟨fun hq => va_up_ne _ _ (by omega), rfl⟩⟩, ?_, rfl, fun i hi => ?_, fun i hi => ?_⟩
  · show va_up h.2.2.1 (a + 1) _ a 1 = _
    rw [va_up_ne _ _ (by omega)]
    rfl
  · show va_up h.2.2.1 (a + 1) _ (a + 1) i = _
    rw [va_up_self, ec, ek, e0, pk_cpy_out (Or.inl hi)]
    exact d8 i (by omega)
  · show va_up h.2.2.1 (a + 1) _ (a + 1) (k + i) = _
    rw [va_up_self, ec, ek, e0, pk_cpy_in (by omega) (by omega)]
    rw [show 0 + (k + i - k) = i by omega]
    exact e8 i (by omega)
/-- a word out of its cells -/
theorem Wd.of {h h' : zM} {a n : Nat} {w v : List Int32} (d : Wd h a n w) (f : zFr a (a + 2) h h') (hF : zF h' a 0 = zF h a 0) (hl : zI h' a 1 = nI v.length) (hv : v.length ≤ n) (hi : ∀ i, i < v.length → zI h' (a + 1) i = v.getD i 0) : Wd h' a n v := by
  obtain ⟨d1, d2, d3, d4, d5, d6, d7, d8⟩ := d
  exact ⟨by rw [f.K]; exact d1, hF.trans d2, by rw [f.K]; exact d3, by rw [f.N]; exact d4, d5, hl, hv, hi⟩
theorem s_addWord {h : zM} {a b n m : Nat} {w v : List Int32} (d : Wd h a n w) (e : Wd h b m v) (hab : a + 1 < b ∨ b + 1 < a) : ∃ h', zf nX10_addWord [.inr a, .inr b] h = some (0, 0, h') ∧ zFr a (a + 2) h h' ∧ Wd h' a n ((w ++ v).take n) := by
  have h1 := d.small
  have h2 := e.small
  have d0 := d
  obtain ⟨d1, d2, d3, d4, d5, d6, d7, d8⟩ := d
  have main : ∀ c, c = min v.length (n - w.length) → ∃ h', ((zcp h (b + 1) 0 (a + 1) (nI w.length) (nI c)).bind fun h1 => (zgI h1 a 10 1).bind fun v6 => (zpI h1 a 10 1 (v6 + nI c)).bind fun h2 => some (((0, 0, h2) : zR))) = some (0, 0, h') ∧ zFr a (a + 2) h h' ∧ Wd h' a n ((w ++ v).take n) := by
    intro c hc
    have hcv : c ≤ v.length := by omega
    obtain ⟨h', g1, g2, g3, g4, g5, g6⟩ := s_copy_in d0 e hab w.length c (Nat.le_refl _) hcv (by omega)
    have hk' : zK h' a = 10 + 1 := by rw [g2.K]; exact d1
    rw [g1, Option.bind_some, zgI_ok hk', Option.bind_some, zpI_ok hk', Option.bind_some]
    have hlen : ((w ++ v).take n).length = w.length + c := by simp; omega
    refine ⟨_, rfl, g2.tr (zFr_sI (by omega) (by omega)), d0.of (g2.tr (zFr_sI (by omega) (by omega))) g4 ?_ (by rw [hlen]; omega) (fun i hi => ?_)⟩
    · rw [zI_sI, g3, d6, nI_add, hlen]
    · rw [zI_sI_a (by omega)]
      rw [hlen] at hi
      rw [List.getD_eq_getElem?_getD, List.getElem?_take_of_lt (by omega)]
      by_cases hiw : i < w.length
      · rw [g5 i hiw, List.getElem?_append_left hiw, List.getD_eq_getElem?_getD]
      · rw [List.getElem?_append_right (by omega), ← List.getD_eq_getElem?_getD, ← g6 (i - w.length) (by omega), show w.length + (i - w.length) = i by omega]
  rw [e_X10_addWord, d0.arr, Option.bind_some, d0.room, Option.bind_some, d0.len, Option.bind_some, e.len, Option.bind_some, pk_sub h1.2.2]
  by_cases c : v.length < n - w.length
  · rw [if_pos ((nI_ltI (by omega) (by omega)).mpr c)]
    simp only [Option.bind_some]
    rw [e.arr, Option.bind_some]
    exact main v.length (by omega)
  · rw [if_neg (by rw [nI_ltI (by omega) (by omega)]; exact c), e.arr, Option.bind_some]
    simp only [Option.bind_some]
    exact main (n - w.length) (by omega)
theorem s_become {h : zM} {a b n m : Nat} {w v : List Int32} (d : Wd h a n w) (e : Wd h b m v) (hab : a + 1 < b ∨ b + 1 < a) : ∃ h', zf nX10_become [.inr a, .inr b] h = some (0, 0, h') ∧ zFr a (a + 2) h h' ∧ Wd h' a n (v.take n) := by
  have h1 := d.small
  have h2 := e.small
  have d0 := d
  obtain ⟨d1, d2, d3, d4, d5, d6, d7, d8⟩ := d
  have main : ∀ c, c = min v.length n → ∃ h', ((zpI h a 10 1 (nI c)).bind fun h1 => (zgF h1 b 10 0).bind fun r2 => (zgF h1 a 10 0).bind fun r3 => (zgI h1 a 10 1).bind fun v4 => (zcp h1 r2 0 r3 0 v4).bind fun h2 => some (((0, 0, h2) : zR))) = some (0, 0, h') ∧ zFr a (a + 2) h h' ∧ Wd h' a n (v.take n) := by
    intro c hc
    have hfr : zFr a (a + 2) h (zsI h a 1 (nI c)) := zFr_sI (by omega) (by omega)
    have e' : Wd (zsI h a 1 (nI c)) b m v := e.keep hfr (by omega)
    have dk : zK (zsI h a 1 (nI c)) a = 10 + 1 := d1
    rw [zpI_ok d1, Option.bind_some, e'.arr, Option.bind_some, zgF_ok dk, Option.bind_some, zgI_ok dk, Option.bind_some, zF_sI, d2, zI_sI]
    have d9 : Wd (zsI h a 1 (nI c)) a n (v.take n) ∨ True := Or.inr trivial
    have dz : Wd (zsI (zsI h a 1 (nI c)) a 1 0) a n [] := by
      refine ⟨d1, d2, d3, d4, d5, by rw [zI_sI]; rfl, Nat.zero_le _, fun i hi => absurd hi (Nat.not_lt_zero _)⟩
    have ec : (nI c).toNatClampNeg = c := nI_clamp (by omega)
    have e0 : (0 : Int32).toNatClampNeg = 0 := rfl
    obtain ⟨x1, x2, x3, x4, x5, x6, x7, x8⟩ := e'
    have hz : zcp (zsI h a 1 (nI c)) (b + 1) 0 (a + 1) 0 (nI c) = some ((zsI h a 1 (nI c)).1, (zsI h a 1 (nI c)).2.1, va_up (zsI h a 1 (nI c)).2.2.1 (a + 1) (va_cpy ((zsI h a 1 (nI c)).2.2.1 (b + 1)) ((zsI h a 1 (nI c)).2.2.1 (a + 1)) (0 : Int32).toNatClampNeg (0 : Int32).toNatClampNeg (nI c).toNatClampNeg), (zsI h a 1 (nI c)).2.2.2) :=
      if_pos ⟨⟨x3, d3⟩, ⟨by decide, by decide, nI_pos (by omega)⟩, by rw [ec, e0, x4]; omega, by rw [ec, e0]; show _ ≤ zN h (a + 1); omega⟩
    rw [hz, Option.bind_some]
    have hf2 : zFr a (a + 2) h ((zsI h a 1 (nI c)).1, (zsI h a 1 (nI c)).2.1, va_up (zsI h a 1 (nI c)).2.2.1 (a + 1) (va_cpy ((zsI h a 1 (nI c)).2.2.1 (b + 1)) ((zsI h a 1 (nI c)).2.2.1 (a + 1)) (0 : Int32).toNatClampNeg (0 : Int32).toNatClampNeg (nI c).toNatClampNeg), (zsI h a 1 (nI c)).2.2.2) :=
      hfr.tr ⟨rfl, rfl, fun q => ⟨fun hq => va_up_ne _ _ (by omega), rfl⟩⟩
    have hlen : (v.take n).length = c := by simp; omega
    refine ⟨_, rfl, hf2, d0.of hf2 rfl ?_ (by rw [hlen]; omega) (fun i hi => ?_)⟩
    · show va_up (zsI h a 1 (nI c)).2.2.1 (a + 1) _ a 1 = _
      rw [va_up_ne _ _ (by omega), hlen]
      exact zI_sI
    · rw [hlen] at hi
      show va_up (zsI h a 1 (nI c)).2.2.1 (a + 1) _ (a + 1) i = _
      rw [va_up_self, ec, e0, pk_cpy_in (by omega) (by omega), List.getD_eq_getElem?_getD, List.getElem?_take_of_lt (by omega), ← List.getD_eq_getElem?_getD]
      rw [show 0 + (i - 0) = i by omega]
      exact x8 i (by omega)
  rw [e_X10_become, e.len, Option.bind_some, d0.arr, Option.bind_some, d0.room, Option.bind_some]
  by_cases c : v.length < n
  · rw [if_pos ((nI_ltI (by omega) (by omega)).mpr c)]
    simp only [Option.bind_some]
    exact main v.length (by omega)
  · rw [if_neg (by rw [nI_ltI (by omega) (by omega)]; exact c)]
    simp only [Option.bind_some]
    rw [d0.room, Option.bind_some]
    exact main n (by omega)
