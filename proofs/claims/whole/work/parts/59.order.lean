/-! The order of words. -/
def lexlt : zWo → zWo → Bool
  | x :: xs, y :: ys => if x = y then lexlt xs ys else decide (x < y)
  | _, _ => false
theorem lexlt_lcp : ∀ (w v : zWo), w.length = v.length → lexlt w v = decide (lcp w v < w.length ∧ w.getD (lcp w v) 0 < v.getD (lcp w v) 0)
  | [], v, h => by simp [lexlt, lcp]
  | x :: xs, [], h => by simp at h
  | x :: xs, y :: ys, h => by
    have ih := lexlt_lcp xs ys (by simpa using h)
    unfold lexlt lcp
    by_cases e : x = y
    · simp [e, ih]
    · simp [e]
theorem wlt_eq (w v : zWo) : wlt w v = (decide (w.length < v.length) || (decide (w.length = v.length) && lexlt w v)) := by
  unfold wlt wcmp
  by_cases c1 : w.length < v.length
  · simp [c1]
  · rw [if_neg c1]
    by_cases c2 : v.length < w.length
    · rw [if_pos c2]
      have : ¬ w.length = v.length := by omega
      simp [c1, this]
    · rw [if_neg c2]
      have e : w.length = v.length := by omega
      have d1 : decide (w.length < v.length) = false := decide_eq_false c1
      have d2 : decide (w.length = v.length) = true := decide_eq_true e
      rw [lexlt_lcp w v e, d1, d2, Bool.false_or, Bool.true_and]
      by_cases c3 : lcp w v < w.length
      · rw [if_pos c3]
        by_cases c4 : w.getD (lcp w v) 0 < v.getD (lcp w v) 0
        · rw [if_pos c4, decide_eq_true (And.intro c3 c4)]
          decide
        · rw [if_neg c4, decide_eq_false (fun z : lcp w v < w.length ∧ w.getD (lcp w v) 0 < v.getD (lcp w v) 0 => c4 z.2)]
          decide
      · rw [if_neg c3, decide_eq_false (fun z : lcp w v < w.length ∧ w.getD (lcp w v) 0 < v.getD (lcp w v) 0 => c3 z.1)]
        decide
theorem i32_irr (x : Int32) : ¬ x < x := by rw [Int32.lt_iff_toInt_lt]; omega
theorem i32_tr {x y z : Int32} (a : x < y) (b : y < z) : x < z := by rw [Int32.lt_iff_toInt_lt] at *; omega
theorem i32_tot {x y : Int32} (a : ¬ x = y) : x < y ∨ y < x := by
  rw [Int32.lt_iff_toInt_lt, Int32.lt_iff_toInt_lt]
  have : ¬ x.toInt = y.toInt := fun z => a (Int32.toInt_inj.mp z)
  omega
theorem lexlt_irr : ∀ w, lexlt w w = false
  | [] => rfl
  | x :: xs => by simp [lexlt, lexlt_irr xs]
theorem lexlt_tr : ∀ {a b c : zWo}, lexlt a b = true → lexlt b c = true → lexlt a c = true
  | [], _, _, h, _ => by simp [lexlt] at h
  | x :: xs, [], _, h, _ => by simp [lexlt] at h
  | x :: xs, y :: ys, [], _, h => by simp [lexlt] at h
  | x :: xs, y :: ys, z :: zs, h1, h2 => by
    unfold lexlt at *
    by_cases e1 : x = y
    · subst e1
      rw [if_pos rfl] at h1
      by_cases e2 : x = z
      · subst e2
        rw [if_pos rfl] at h2 ⊢
        exact lexlt_tr h1 h2
      · rw [if_neg e2] at h2 ⊢
        exact h2
    · rw [if_neg e1] at h1
      by_cases e2 : y = z
      · subst e2
        rw [if_neg e1]
        exact h1
      · rw [if_neg e2] at h2
        have q := i32_tr (of_decide_eq_true h1) (of_decide_eq_true h2)
        rw [if_neg (fun z => i32_irr _ (by rw [z] at q; exact q))]
        exact decide_eq_true q
theorem lexlt_tot : ∀ {a b : zWo}, a.length = b.length → a ≠ b → lexlt a b = true ∨ lexlt b a = true
  | [], [], _, h => absurd rfl h
  | [], y :: ys, h, _ => by simp at h
  | x :: xs, [], h, _ => by simp at h
  | x :: xs, y :: ys, h, hn => by
    unfold lexlt
    by_cases e : x = y
    · subst e
      rw [if_pos rfl, if_pos rfl]
      exact lexlt_tot (by simpa using h) (fun z => hn (by rw [z]))
    · rw [if_neg e, if_neg (Ne.symm e)]
      rcases i32_tot e with q | q
      · exact Or.inl (decide_eq_true q)
      · exact Or.inr (decide_eq_true q)
theorem wlt_irr (w : zWo) : wlt w w = false := by rw [wlt_eq, lexlt_irr]; simp
theorem wlt_tr {a b c : zWo} (h1 : wlt a b = true) (h2 : wlt b c = true) : wlt a c = true := by
  rw [wlt_eq] at *
  simp only [Bool.or_eq_true, Bool.and_eq_true, decide_eq_true_eq] at *
  rcases h1 with h1 | ⟨h1, h1'⟩
  · rcases h2 with h2 | ⟨h2, h2'⟩
    · exact Or.inl (by omega)
    · exact Or.inl (by omega)
  · rcases h2 with h2 | ⟨h2, h2'⟩
    · exact Or.inl (by omega)
    · exact Or.inr ⟨by omega, lexlt_tr h1' h2'⟩
theorem wlt_tot {a b : zWo} (h : a ≠ b) : wlt a b = true ∨ wlt b a = true := by
  rw [wlt_eq, wlt_eq]
  simp only [Bool.or_eq_true, Bool.and_eq_true, decide_eq_true_eq]
  by_cases c1 : a.length < b.length
  · exact Or.inl (Or.inl c1)
  · by_cases c2 : b.length < a.length
    · exact Or.inr (Or.inl c2)
    · have e : a.length = b.length := by omega
      rcases lexlt_tot e h with q | q
      · exact Or.inl (Or.inr ⟨e, q⟩)
      · exact Or.inr (Or.inr ⟨e.symm, q⟩)
theorem wlt_asym {a b : zWo} (h : wlt a b = true) : wlt b a = false := by
  cases q : wlt b a with
  | false => rfl
  | true => exact absurd (wlt_tr h q) (by rw [wlt_irr]; decide)
abbrev srt (l : List zWo) : Prop := l.Pairwise fun a b => wlt a b = true
theorem insU_mem {c x : zWo} : ∀ {s : List zWo}, x ∈ insU c s ↔ x = c ∨ x ∈ s
  | [] => by simp [insU]
  | y :: ys => by
    have ih := insU_mem (c := c) (x := x) (s := ys)
    unfold insU
    split
    · simp [ih]; constructor
      · rintro (h | h | h)
        · exact Or.inr (Or.inl h)
        · exact Or.inl h
        · exact Or.inr (Or.inr h)
      · rintro (h | h | h)
        · exact Or.inr (Or.inl h)
        · exact Or.inl h
        · exact Or.inr (Or.inr h)
    · split
      · rename_i e
        subst e
        simp
      · simp
theorem insU_srt {c : zWo} : ∀ {s : List zWo}, srt s → srt (insU c s)
  | [], _ => by simp [insU]
  | y :: ys, h => by
    obtain ⟨h1, h2⟩ := List.pairwise_cons.mp h
    unfold insU
    split
    · rename_i q
      refine List.pairwise_cons.mpr ⟨fun z hz => ?_, insU_srt h2⟩
      rcases insU_mem.mp hz with e | e
      · rw [e]; exact q
      · exact h1 z e
    · rename_i q
      split
      · exact h
      · rename_i e
        have l : wlt c y = true := by
          rcases wlt_tot e with r | r
          · exact absurd r q
          · exact r
        refine List.pairwise_cons.mpr ⟨fun z hz => ?_, h⟩
        rcases List.mem_cons.mp hz with e2 | e2
        · rw [e2]; exact l
        · exact wlt_tr l (h1 z e2)
theorem insU_in {c : zWo} : ∀ {s : List zWo}, srt s → c ∈ s → insU c s = s
  | [], _, h => by cases h
  | y :: ys, h, hc => by
    obtain ⟨h1, h2⟩ := List.pairwise_cons.mp h
    unfold insU
    rcases List.mem_cons.mp hc with e | e
    · subst e
      rw [if_neg (by rw [wlt_irr]; decide), if_pos rfl]
    · rw [if_pos (h1 c e), insU_in h2 e]
/-- put in from the end: behind p nothing that is not greater -/
theorem insU_end {c : zWo} : ∀ {s : List zWo} {p : Nat}, srt s → c ∉ s → p ≤ s.length → (∀ j, p ≤ j → j < s.length → wlt c (s.getD j []) = true) → (0 < p → wlt c (s.getD (p - 1) []) = false) → insU c s = s.take p ++ c :: s.drop p
  | [], p, _, _, hp, _, _ => by
    have : p = 0 := by simpa using hp
    subst this
    rfl
  | y :: ys, 0, h, hc, hp, h1, h2 => by
    have q : wlt c y = true := h1 0 (Nat.le_refl _) (by simp)
    unfold insU
    rw [if_neg (by rw [wlt_asym q]; decide), if_neg (fun e => hc (by rw [e]; exact List.mem_cons_self))]
    rfl
  | y :: ys, p + 1, h, hc, hp, h1, h2 => by
    obtain ⟨k1, k2⟩ := List.pairwise_cons.mp h
    have hq := h2 (by omega)
    rw [Nat.add_sub_cancel] at hq
    have hp' : p ≤ ys.length := by simpa using hp
    have q : wlt y c = true := by
      have hne : (y :: ys).getD p [] ≠ c := fun e => hc (by
        rw [← e, List.getD_eq_getElem?_getD, List.getElem?_eq_getElem (by simp; omega)]
        exact List.getElem_mem _)
      have hlt : wlt ((y :: ys).getD p []) c = true := by
        rcases wlt_tot hne with r | r
        · exact r
        · rw [hq] at r; cases r
      cases p with
      | zero => exact hlt
      | succ p =>
        refine wlt_tr (k1 _ ?_) hlt
        rw [List.getD_cons_succ, List.getD_eq_getElem?_getD, List.getElem?_eq_getElem (by omega)]
        exact List.getElem_mem _
    have ih := insU_end (s := ys) (p := p) k2 (fun z => hc (List.mem_cons_of_mem _ z)) hp' (fun j hj hj2 => h1 (j + 1) (by omega) (by simpa using hj2)) (fun hp0 => by
      obtain ⟨r, rfl⟩ : ∃ r, p = r + 1 := ⟨p - 1, by omega⟩
      exact hq)
    unfold insU
    rw [if_pos q, ih]
    rfl
theorem fold_insU_srt (l : List zWo) : ∀ s, srt s → srt (l.foldl (fun s c => insU c s) s) := by
  induction l with
  | nil => intro s h; exact h
  | cons x l ih => intro s h; exact ih _ (insU_srt h)
theorem fold_insU_mem (l : List zWo) (x : zWo) : ∀ s, x ∈ l.foldl (fun s c => insU c s) s ↔ x ∈ l ∨ x ∈ s := by
  induction l with
  | nil => intro s; simp
  | cons y l ih =>
    intro s
    rw [List.foldl_cons, ih, insU_mem, List.mem_cons]
    constructor
    · rintro (h | h | h)
      · exact Or.inl (Or.inr h)
      · exact Or.inl (Or.inl h)
      · exact Or.inr h
    · rintro ((h | h) | h)
      · exact Or.inr (Or.inl h)
      · exact Or.inl h
      · exact Or.inr (Or.inr h)
