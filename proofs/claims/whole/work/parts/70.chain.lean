/-! Chains of sets that grow, and how long words must be to tell states of a finite machine apart. -/
def cntP (N : Nat) (S : Nat → Bool) : Nat := ((List.range N).filter S).length
theorem cntP_succ (N : Nat) (S : Nat → Bool) : cntP (N + 1) S = cntP N S + (if S N then 1 else 0) := by
  unfold cntP
  rw [List.range_succ, List.filter_append, List.length_append]
  by_cases h : S N = true <;> simp [h]
theorem cntP_le (N : Nat) (S : Nat → Bool) : cntP N S ≤ N := by
  unfold cntP
  have := List.length_filter_le S (List.range N)
  simpa using this
theorem cntP_mono : ∀ (N : Nat) {S T : Nat → Bool}, (∀ x, x < N → S x = true → T x = true) → cntP N S ≤ cntP N T ∧ (cntP N S = cntP N T → ∀ x, x < N → S x = T x)
  | 0, S, T, h => ⟨Nat.le_refl _, fun _ x hx => absurd hx (Nat.not_lt_zero _)⟩
  | N + 1, S, T, h => by
    obtain ⟨i1, i2⟩ := cntP_mono N (S := S) (T := T) (fun x hx => h x (by omega))
    rw [cntP_succ, cntP_succ]
    have hN := h N (by omega)
    by_cases s : S N = true
    · have t := hN s
      rw [if_pos s, if_pos t]
      refine ⟨by omega, fun e x hx => ?_⟩
      by_cases c : x = N
      · subst c; rw [s, t]
      · exact i2 (by omega) x (by omega)
    · rw [if_neg s]
      by_cases t : T N = true
      · rw [if_pos t]
        exact ⟨by omega, fun e => by omega⟩
      · rw [if_neg t]
        refine ⟨by omega, fun e x hx => ?_⟩
        by_cases c : x = N
        · subst c
          rw [Bool.not_eq_true] at s t
          rw [s, t]
        · exact i2 (by omega) x (by omega)
/-- a chain of sets of numbers below N that stands still for good once it has stood still -/
theorem chain {N : Nat} (S : Nat → Nat → Bool) (hm : ∀ k x, x < N → S k x = true → S (k + 1) x = true) (hs : ∀ k, (∀ x, x < N → S k x = S (k + 1) x) → ∀ x, x < N → S (k + 1) x = S (k + 2) x) :
    ∀ k, N ≤ k + cntP N (S 0) → ∀ x, x < N → S k x = S (k + 1) x := by
  have key : ∀ k, (∀ x, x < N → S k x = S (k + 1) x) ∨ k + 1 + cntP N (S 0) ≤ cntP N (S (k + 1)) := by
    intro k
    induction k with
    | zero =>
      obtain ⟨a, b⟩ := cntP_mono N (hm 0)
      by_cases e : cntP N (S 0) = cntP N (S 1)
      · exact Or.inl (b e)
      · right
        rw [Nat.zero_add] at a ⊢
        omega
    | succ k ih =>
      rcases ih with q | q
      · exact Or.inl (hs k q)
      · obtain ⟨a, b⟩ := cntP_mono N (hm (k + 1))
        by_cases e : cntP N (S (k + 1)) = cntP N (S (k + 1 + 1))
        · exact Or.inl (b e)
        · right
          omega
  intro k hk
  rcases key k with q | q
  · exact q
  · have := cntP_le N (S (k + 1))
    omega
section MOORE
variable {N : Nat} {dt : Nat → Nat → Nat} {ot : Nat → Bool}
/-- alike as far as k letters tell -/
def agr (dt : Nat → Nat → Nat) (ot : Nat → Bool) : Nat → Nat → Nat → Prop
  | 0, x, y => ot x = ot y
  | k + 1, x, y => ot x = ot y ∧ ∀ l, 1 ≤ l → l ≤ 3 → agr dt ot k (dt x l) (dt y l)
theorem agr_dn : ∀ (k x y : Nat), agr dt ot (k + 1) x y → agr dt ot k x y
  | 0, x, y, h => h.1
  | k + 1, x, y, h => ⟨h.1, fun l a b => agr_dn k _ _ (h.2 l a b)⟩
theorem agr_rf : ∀ (k x : Nat), agr dt ot k x x
  | 0, x => rfl
  | k + 1, x => ⟨rfl, fun l _ _ => agr_rf k _⟩
theorem agr_sy : ∀ (k x y : Nat), agr dt ot k x y → agr dt ot k y x
  | 0, x, y, h => Eq.symm h
  | k + 1, x, y, h => ⟨h.1.symm, fun l a b => agr_sy k _ _ (h.2 l a b)⟩
theorem agr_tr : ∀ (k x y z : Nat), agr dt ot k x y → agr dt ot k y z → agr dt ot k x z
  | 0, x, y, z, h, g => Eq.trans h g
  | k + 1, x, y, z, h, g => ⟨h.1.trans g.1, fun l a b => agr_tr k _ _ _ (h.2 l a b) (g.2 l a b)⟩
theorem agr_word : ∀ (w : List Nat) (k x y : Nat), agr dt ot k x y → w.length ≤ k → (∀ l ∈ w, 1 ≤ l ∧ l ≤ 3) → ot (w.foldl dt x) = ot (w.foldl dt y)
  | [], 0, x, y, h, _, _ => h
  | [], k + 1, x, y, h, _, _ => h.1
  | l :: w, 0, x, y, h, hl, _ => absurd hl (by simp)
  | l :: w, k + 1, x, y, h, hl, hw => agr_word w k _ _ (h.2 l (hw l List.mem_cons_self).1 (hw l List.mem_cons_self).2) (by simpa using hl) (fun l' h' => hw l' (List.mem_cons_of_mem _ h'))
theorem agr_of : ∀ (k x y : Nat), (∀ w : List Nat, w.length ≤ k → (∀ l ∈ w, 1 ≤ l ∧ l ≤ 3) → ot (w.foldl dt x) = ot (w.foldl dt y)) → agr dt ot k x y
  | 0, x, y, h => h [] (Nat.le_refl _) (fun _ z => by cases z)
  | k + 1, x, y, h => ⟨h [] (Nat.zero_le _) (fun _ z => by cases z), fun l a b => agr_of k _ _ (fun w hw hl => h (l :: w) (by simpa using hw) (fun l' h' => by
      rcases List.mem_cons.mp h' with e | e
      · rw [e]; exact ⟨a, b⟩
      · exact hl l' e))⟩
noncomputable def agS (dt : Nat → Nat → Nat) (ot : Nat → Bool) (k x : Nat) : Bool := @decide (∀ y, y < x → ¬ agr dt ot k y x) (Classical.propDecidable _)
theorem agS_iff {k x : Nat} : agS dt ot k x = true ↔ ∀ y, y < x → ¬ agr dt ot k y x := by
  unfold agS
  exact @decide_eq_true_iff _ (Classical.propDecidable _)
theorem ag_least (k : Nat) : ∀ (f x : Nat), x ≤ f → ∃ z, z ≤ x ∧ agr dt ot k z x ∧ agS dt ot k z = true
  | 0, x, h => ⟨x, Nat.le_refl _, agr_rf k x, agS_iff.mpr (fun y hy => by omega)⟩
  | f + 1, x, h => by
    by_cases c : ∃ y, y < x ∧ agr dt ot k y x
    · obtain ⟨y, h1, h2⟩ := c
      obtain ⟨z, a, b, d⟩ := ag_least k f y (by omega)
      exact ⟨z, by omega, agr_tr k _ _ _ b h2, d⟩
    · exact ⟨x, Nat.le_refl _, agr_rf k x, agS_iff.mpr (fun y hy z => c ⟨y, hy, z⟩)⟩
theorem ag_still {k : Nat} (h : ∀ x, x < N → agS dt ot k x = agS dt ot (k + 1) x) : ∀ x y, x < N → y < N → agr dt ot k x y → agr dt ot (k + 1) x y := by
  intro x y hx hy hxy
  obtain ⟨z, a1, a2, a3⟩ := ag_least (dt := dt) (ot := ot) (k + 1) x x (Nat.le_refl _)
  obtain ⟨u, b1, b2, b3⟩ := ag_least (dt := dt) (ot := ot) (k + 1) y y (Nat.le_refl _)
  have hzu : agr dt ot k z u := agr_tr k _ _ _ (agr_dn k _ _ a2) (agr_tr k _ _ _ hxy (agr_sy k _ _ (agr_dn k _ _ b2)))
  have c1 := agS_iff.mp ((h z (by omega)).trans a3)
  have c2 := agS_iff.mp ((h u (by omega)).trans b3)
  have e : z = u := by
    rcases Nat.lt_trichotomy z u with q | q | q
    · exact absurd hzu (c2 z q)
    · exact q
    · exact absurd (agr_sy k _ _ hzu) (c1 u q)
  subst e
  exact agr_tr (k + 1) _ _ _ (agr_sy (k + 1) _ _ a2) b2
/-- what N - 1 letters don't tell apart nothing does -/
theorem moore (hN : 0 < N) (hd : ∀ x l, x < N → 1 ≤ l → l ≤ 3 → dt x l < N) : ∀ (j x y : Nat), x < N → y < N → agr dt ot (N - 1) x y → agr dt ot (N - 1 + j) x y := by
  have hst : ∀ k, (∀ x, x < N → agS dt ot k x = agS dt ot (k + 1) x) → ∀ x, x < N → agS dt ot (k + 1) x = agS dt ot (k + 2) x := by
    intro k h x hx
    have up := ag_still h
    have e : ∀ y, y < N → (agr dt ot (k + 1) y x ↔ agr dt ot (k + 2) y x) := fun y hy =>
      ⟨fun q => ⟨q.1, fun l a b => up _ _ (hd y l hy a b) (hd x l hx a b) (q.2 l a b)⟩, agr_dn _ _ _⟩
    cases q : agS dt ot (k + 2) x with
    | true =>
      have := agS_iff.mp q
      exact agS_iff.mpr (fun y hy z => this y hy ((e y (by omega)).mp z))
    | false =>
      cases q2 : agS dt ot (k + 1) x with
      | false => rfl
      | true =>
        have := agS_iff.mp q2
        rw [agS_iff.mpr (fun y hy z => this y hy ((e y (by omega)).mpr z))] at q
        cases q
  have c0 : 1 ≤ cntP N (agS dt ot 0) := by
    have h0 : agS dt ot 0 0 = true := agS_iff.mpr (fun y hy => by omega)
    unfold cntP
    exact List.length_pos_of_mem (List.mem_filter.mpr ⟨List.mem_range.mpr hN, h0⟩)
  have still : ∀ j, ∀ x, x < N → agS dt ot (N - 1 + j) x = agS dt ot (N - 1 + j + 1) x := fun j => chain (agS dt ot) (fun k x _ q => agS_iff.mpr (fun y hy z => agS_iff.mp q y hy (agr_dn k _ _ z))) hst (N - 1 + j) (by omega)
  intro j
  induction j with
  | zero => intro x y _ _ h; exact h
  | succ j ih => intro x y hx hy h; exact ag_still (still j) x y hx hy (ih x y hx hy h)
end MOORE
