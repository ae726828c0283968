/-! Lists that are gone through while they grow at their end. -/
def qSeq {α : Type} (st : α → List α → List α) (s0 : List α) : Nat → List α
  | 0 => s0
  | i + 1 => match (qSeq st s0 i)[i]? with
    | some e => st e (qSeq st s0 i)
    | none => qSeq st s0 i
section QS
variable {α : Type} {st : α → List α → List α} {s0 : List α}
theorem qSeq_some {i : Nat} {e : α} (h : (qSeq st s0 i)[i]? = some e) : qSeq st s0 (i + 1) = st e (qSeq st s0 i) := by
  show (match (qSeq st s0 i)[i]? with
    | some e => st e (qSeq st s0 i)
    | none => qSeq st s0 i) = _
  rw [h]
theorem qSeq_none {i : Nat} (h : (qSeq st s0 i)[i]? = none) : qSeq st s0 (i + 1) = qSeq st s0 i := by
  show (match (qSeq st s0 i)[i]? with
    | some e => st e (qSeq st s0 i)
    | none => qSeq st s0 i) = _
  rw [h]
theorem qSeq_pre (hst : ∀ e l, ∃ t, st e l = l ++ t) (i : Nat) : ∀ d, ∃ t, qSeq st s0 (i + d) = qSeq st s0 i ++ t := by
  intro d
  induction d with
  | zero => exact ⟨[], by simp⟩
  | succ d ih =>
    obtain ⟨t, e⟩ := ih
    cases h : (qSeq st s0 (i + d))[i + d]? with
    | none => exact ⟨t, by rw [← Nat.add_assoc, qSeq_none h, e]⟩
    | some x =>
      obtain ⟨t2, e2⟩ := hst x (qSeq st s0 (i + d))
      exact ⟨t ++ t2, by rw [← Nat.add_assoc, qSeq_some h, e2, e, List.append_assoc]⟩
theorem qSeq_get (hst : ∀ e l, ∃ t, st e l = l ++ t) {i j k : Nat} (hij : i ≤ j) (hk : k < (qSeq st s0 i).length) : (qSeq st s0 j)[k]? = (qSeq st s0 i)[k]? := by
  obtain ⟨t, e⟩ := qSeq_pre (s0 := s0) hst i (j - i)
  rw [show i + (j - i) = j by omega] at e
  rw [e, List.getElem?_append_left hk]
theorem qSeq_len (hst : ∀ e l, ∃ t, st e l = l ++ t) {i j : Nat} (hij : i ≤ j) : (qSeq st s0 i).length ≤ (qSeq st s0 j).length := by
  obtain ⟨t, e⟩ := qSeq_pre (s0 := s0) hst i (j - i)
  rw [show i + (j - i) = j by omega] at e
  rw [e, List.length_append]
  omega
theorem qSeq_stop {i : Nat} (h : (qSeq st s0 i).length ≤ i) : ∀ d, qSeq st s0 (i + d) = qSeq st s0 i := by
  intro d
  induction d with
  | zero => rfl
  | succ d ih =>
    rw [← Nat.add_assoc, qSeq_none, ih]
    rw [ih]
    exact List.getElem?_eq_none (by omega)
theorem qSeq_stop2 {i j : Nat} (h : (qSeq st s0 i).length ≤ i) (hij : i ≤ j) : qSeq st s0 j = qSeq st s0 i := by
  have := qSeq_stop h (j - i)
  rwa [show i + (j - i) = j by omega] at this
/-- what is there has been gone through in its turn -/
theorem qSeq_turn (hst : ∀ e l, ∃ t, st e l = l ++ t) {j k : Nat} {e : α} (h : (qSeq st s0 j)[k]? = some e) : (qSeq st s0 k)[k]? = some e ∧ qSeq st s0 (k + 1) = st e (qSeq st s0 k) := by
  have hk : k < (qSeq st s0 j).length := (List.getElem?_eq_some_iff.mp h).1
  have hkk : k < (qSeq st s0 k).length := by
    rcases Nat.lt_or_ge k (qSeq st s0 k).length with q | q
    · exact q
    · exfalso
      rcases Nat.le_total k j with c | c
      · rw [qSeq_stop2 q c] at hk
        omega
      · have := qSeq_len (s0 := s0) hst c
        omega
  have e1 : (qSeq st s0 k)[k]? = some e := by
    rcases Nat.le_total k j with c | c
    · rw [← qSeq_get hst c hkk, h]
    · rw [qSeq_get hst c hk, h]
  exact ⟨e1, qSeq_some e1⟩
theorem qSeq_inv {P : List α → Prop} (h0 : P s0) (hs : ∀ e l, e ∈ l → P l → P (st e l)) : ∀ i, P (qSeq st s0 i) := by
  intro i
  induction i with
  | zero => exact h0
  | succ i ih =>
    cases h : (qSeq st s0 i)[i]? with
    | none => rw [qSeq_none h]; exact ih
    | some x => rw [qSeq_some h]; exact hs _ _ (List.mem_of_getElem? h) ih
end QS
/-- the first that has a mark -/
theorem find_at {α : Type} {p : α → Bool} {l : List α} {k : Nat} {e : α} (h : l[k]? = some e) (hp : p e = true) (hn : ∀ j x, j < k → l[j]? = some x → p x = false) : l.find? p = some e := by
  induction l generalizing k with
  | nil => simp at h
  | cons y ys ih =>
    cases k with
    | zero =>
      have : y = e := by simpa using h
      subst this
      rw [List.find?_cons, hp]
    | succ k =>
      have hy := hn 0 y (by omega) (by simp)
      rw [List.find?_cons, hy]
      exact ih (k := k) (by simpa using h) (fun j x hj hx => hn (j + 1) x (by omega) (by simpa using hx))
theorem find_no {α : Type} {p : α → Bool} {l : List α} (hn : ∀ j x, j < l.length → l[j]? = some x → p x = false) : l.find? p = none := by
  rw [List.find?_eq_none]
  intro x hx
  obtain ⟨i, hi, e⟩ := List.mem_iff_getElem.mp hx
  rw [hn i x hi (by rw [List.getElem?_eq_getElem hi, e])]
  decide
theorem find_get {α : Type} {p : α → Bool} {l : List α} {e : α} (h : l.find? p = some e) : ∃ k : Nat, l[k]? = some e ∧ p e = true ∧ ∀ (j : Nat) (x : α), j < k → l[j]? = some x → p x = false := by
  induction l with
  | nil => simp at h
  | cons y ys ih =>
    rw [List.find?_cons] at h
    cases hy : p y with
    | true =>
      rw [hy] at h
      have : y = e := by simpa using h
      subst this
      exact ⟨0, by simp, hy, fun j x hj => by omega⟩
    | false =>
      rw [hy] at h
      obtain ⟨k, a, b, c⟩ := ih h
      refine ⟨k + 1, by simpa using a, b, fun j x hj hx => ?_⟩
      cases j with
      | zero =>
        have : y = x := by simpa using hx
        subst this
        exact hy
      | succ j => exact c j x (by omega) (by simpa using hx)
theorem foldl_pre {α β : Type} {f : List β → α → List β} (hf : ∀ K x, ∃ t, f K x = K ++ t) : ∀ (l : List α) (K : List β), ∃ t, l.foldl f K = K ++ t
  | [], K => ⟨[], by simp⟩
  | x :: l, K => by
    obtain ⟨t, e⟩ := hf K x
    obtain ⟨t2, e2⟩ := foldl_pre hf l (f K x)
    exact ⟨t ++ t2, by rw [List.foldl_cons, e2, e, List.append_assoc]⟩
theorem foldl_inv {α β : Type} {f : β → α → β} {P : β → Prop} {l : List α} (st : ∀ b x, x ∈ l → P b → P (f b x)) : ∀ {s : β}, P s → P (l.foldl f s) := by
  induction l with
  | nil => intro s h; exact h
  | cons x l ih => intro s h; exact ih (fun b y hy => st b y (List.mem_cons_of_mem _ hy)) (st s x List.mem_cons_self h)
