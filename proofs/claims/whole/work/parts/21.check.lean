def zca (recs : List zRec) (M : zRec) : Nat → zO → List (Nat × Nat × Nat) → Bool
  | _, [], _ => true
  | pc, none :: l, _ :: qs => zca recs M (pc + 1) l qs
  | pc, some E :: l, (q1, q2, q3) :: qs => zchk recs M pc E q1 q2 q3 && zca recs M (pc + 1) l qs
  | _, _ :: _, [] => false
theorem zca_ok {recs : List zRec} {M : zRec} : ∀ (l : zO) (pc : Nat) (qs : List (Nat × Nat × Nat)), zca recs M pc l qs = true → ∀ (i : Nat) (E : zE), znth l i = some (some E) → ∃ q1 q2 q3, zchk recs M (pc + i) E q1 q2 q3 = true
  | [], _, _, _, _, _, h => by simp [znth] at h
  | none :: l, pc, [], h, _, _, _ => by simp [zca] at h
  | some E :: l, pc, [], h, _, _, _ => by simp [zca] at h
  | none :: l, pc, q :: qs, h, 0, E, h2 => by simp [znth] at h2
  | none :: l, pc, q :: qs, h, i + 1, E, h2 => by
    have := zca_ok l (pc + 1) qs (by simpa [zca] using h) i E (by simpa [znth] using h2)
    rw [show pc + (i + 1) = pc + 1 + i by omega]
    exact this
  | some E0 :: l, pc, (q1, q2, q3) :: qs, h, 0, E, h2 => by
    simp [znth] at h2
    subst h2
    simp only [zca, Bool.and_eq_true] at h
    exact ⟨q1, q2, q3, h.1⟩
  | some E0 :: l, pc, (q1, q2, q3) :: qs, h, i + 1, E, h2 => by
    simp only [zca, Bool.and_eq_true] at h
    have := zca_ok l (pc + 1) qs h.2 i E (by simpa [znth] using h2)
    rw [show pc + (i + 1) = pc + 1 + i by omega]
    exact this
theorem zrok_of {recs : List zRec} {M : zRec} (qs : List (Nat × Nat × Nat)) (h : zca recs M 0 (zMp M) qs = true) : zrok recs M := by
  intro pc E hE
  have := zca_ok _ 0 qs h pc E hE
  rw [Nat.zero_add] at this
  exact this
