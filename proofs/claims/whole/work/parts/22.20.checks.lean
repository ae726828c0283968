theorem znth_seg {α : Type} : ∀ (l : List α) (a n i : Nat), i < n → znth ((l.drop a).take n) i = znth l (a + i)
  | l, 0, n, i, h => by
    rw [List.drop_zero, Nat.zero_add]
    induction l generalizing n i with
    | nil => rw [List.take_nil]
    | cons x l ih =>
      cases n with
      | zero => exact absurd h (Nat.not_lt_zero _)
      | succ n =>
        cases i with
        | zero => rfl
        | succ i =>
          show znth (l.take n) i = znth l i
          exact ih n i (Nat.lt_of_succ_lt_succ h)
  | [], a + 1, n, i, h => by rw [List.drop_nil, List.take_nil]; rfl
  | x :: l, a + 1, n, i, h => by
    rw [List.drop_succ_cons, znth_seg l a n i h, show a + 1 + i = (a + i) + 1 by omega]
    rfl
theorem znth_len {α : Type} : ∀ {l : List α} {i : Nat} {a : α}, znth l i = some a → i < l.length
  | [], _, _, h => by simp [znth] at h
  | _ :: _, 0, _, _ => Nat.succ_pos _
  | _ :: l, i + 1, a, h => Nat.succ_lt_succ (znth_len (l := l) (by simpa [znth] using h))
set_option maxRecDepth 100000 in
theorem zlaw_rok : zrok zrecs zr_L_law := by
  intro pc E hE
  have hl : pc < 800 := Nat.lt_of_lt_of_le (znth_len hE) (by decide +kernel)
  have key : ∀ k, k < 8 → zca zrecs zr_L_law (100 * k) ((zo_L_law.drop (100 * k)).take 100) ((zq_L_law.drop (100 * k)).take 100) = true := by
    intro k hk
    match k, hk with
    | 0, _ => exact zk_L_law_0
    | 1, _ => exact zk_L_law_1
    | 2, _ => exact zk_L_law_2
    | 3, _ => exact zk_L_law_3
    | 4, _ => exact zk_L_law_4
    | 5, _ => exact zk_L_law_5
    | 6, _ => exact zk_L_law_6
    | 7, _ => exact zk_L_law_7
  have h1 := zca_ok _ _ _ (key (pc / 100) (by omega)) (pc % 100) E (by
    rw [znth_seg _ _ _ _ (Nat.mod_lt _ (by decide)), show 100 * (pc / 100) + pc % 100 = pc by omega]
    exact hE)
  rw [show 100 * (pc / 100) + pc % 100 = pc by omega] at h1
  exact h1
