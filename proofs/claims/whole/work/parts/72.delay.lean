/-! Two delays a pair: what is gone through, and that it tells all. -/
abbrev zCf : Type := (Nat × Nat) × zWo × zWo
def apt (c : zCf) : Bool := decide (0 < c.2.1.length ∧ 0 < c.2.2.length)
/-- what is left of both as long as they begin alike -/
def dlyD (u v : zWo) : zWo × zWo := (u.drop (lcp u v), v.drop (lcp u v))
def cutD (d : zWo × zWo) : zWo × zWo := if 0 < d.1.length ∧ 0 < d.2.length then (d.1.take 1, d.2.take 1) else d
def stpC (c : zCf) (a b : zArc) : zCf := ((a.2.2.1, b.2.2.1), cutD (dlyD (c.2.1 ++ dgs a.2.2.2) (c.2.2 ++ dgs b.2.2.2)))
def rejC (K : List zCf) (c : zCf) : Bool := decide (2 ≤ (K.filter fun k => decide (k.1 = c.1)).length) || K.any fun k => decide (k.1 = c.1) && (apt k || decide (k = c))
def addC (F : Nat × Nat → Bool) (K : List zCf) (c : zCf) : List zCf := if F c.1 = true ∧ rejC K c = false then K ++ [c] else K
def xArc2 (F : Nat × Nat → Bool) (l : Nat) (c : zCf) (a : zArc) (K : List zCf) (b : zArc) : List zCf := if b.1 = c.1.2 ∧ b.2.1 = l then addC F K (stpC c a b) else K
def xArc (F : Nat × Nat → Bool) (N : zMa) (l : Nat) (c : zCf) (K : List zCf) (a : zArc) : List zCf := if a.1 = c.1.1 ∧ a.2.1 = l then N.2.2.2.foldl (xArc2 F l c a) K else K
def xCf (F : Nat × Nat → Bool) (M N : zMa) (l : Nat) (K : List zCf) (c : zCf) : List zCf := M.2.2.2.foldl (xArc F N l c) K
def xGr (F : Nat × Nat → Bool) (M N : zMa) (l : Nat) (K cs : List zCf) : List zCf := cs.foldl (xCf F M N l) K
abbrev zGp : Type := List zCf × List Nat
def allK (Gs : List zGp) : List zCf := Gs.flatMap (·.1)
def growG (F : Nat × Nat → Bool) (M N : zMa) (l : Nat) (g : zGp) (Gs : List zGp) : List zGp :=
  if (xGr F M N l (allK Gs) g.1).length = (allK Gs).length then Gs else Gs ++ [((xGr F M N l (allK Gs) g.1).drop (allK Gs).length, g.2 ++ [l])]
def stepG (F : Nat × Nat → Bool) (M N : zMa) (g : zGp) (Gs : List zGp) : List zGp := growG F M N 3 g (growG F M N 2 g (growG F M N 1 g Gs))
def begs (M : zMa) : List Nat := (List.range M.1).filter fun q => M.2.1.testBit q
def iniC (M N : zMa) : List zCf := (begs M).flatMap fun p => (begs N).map fun q => ((p, q), [], [])
def iniK (F : Nat × Nat → Bool) (M N : zMa) : List zCf := (iniC M N).foldl (addC F) []
def iniG (F : Nat × Nat → Bool) (M N : zMa) : List zGp := if (iniK F M N).length = 0 then [] else [(iniK F M N, [])]
def endC (M N : zMa) (c : zCf) : Bool := match M.2.2.1 c.1.1, N.2.2.1 c.1.2 with
  | some e, some f => decide (c.2.1 ++ dgs e ≠ c.2.2 ++ dgs f)
  | _, _ => false
def shwG (M N : zMa) (g : zGp) : Bool := g.1.any (endC M N)
abbrev seqG (F : Nat × Nat → Bool) (M N : zMa) : Nat → List zGp := qSeq (stepG F M N) (iniG F M N)
/-- the word that tells the outputs apart; none -/
def difW (F : Nat × Nat → Bool) (M N : zMa) : Option (List Nat) := ((seqG F M N 73).find? (shwG M N)).map (·.2)
-- prefixes
theorem addC_pre (F : Nat × Nat → Bool) (K : List zCf) (c : zCf) : ∃ t, addC F K c = K ++ t := by
  unfold addC
  split
  · exact ⟨_, rfl⟩
  · exact ⟨[], by simp⟩
theorem xArc2_pre (F : Nat × Nat → Bool) (l : Nat) (c : zCf) (a : zArc) (K : List zCf) (b : zArc) : ∃ t, xArc2 F l c a K b = K ++ t := by
  unfold xArc2
  split
  · exact addC_pre _ _ _
  · exact ⟨[], by simp⟩
theorem xArc_pre (F : Nat × Nat → Bool) (N : zMa) (l : Nat) (c : zCf) (K : List zCf) (a : zArc) : ∃ t, xArc F N l c K a = K ++ t := by
  unfold xArc
  split
  · exact foldl_pre (fun K b => xArc2_pre F l c a K b) _ _
  · exact ⟨[], by simp⟩
theorem xCf_pre (F : Nat × Nat → Bool) (M N : zMa) (l : Nat) (K : List zCf) (c : zCf) : ∃ t, xCf F M N l K c = K ++ t := foldl_pre (fun K a => xArc_pre F N l c K a) _ _
theorem xGr_pre (F : Nat × Nat → Bool) (M N : zMa) (l : Nat) (K cs : List zCf) : ∃ t, xGr F M N l K cs = K ++ t := foldl_pre (fun K c => xCf_pre F M N l K c) _ _
theorem growG_pre (F : Nat × Nat → Bool) (M N : zMa) (l : Nat) (g : zGp) (Gs : List zGp) : ∃ t, growG F M N l g Gs = Gs ++ t := by
  unfold growG
  split
  · exact ⟨[], by simp⟩
  · exact ⟨_, rfl⟩
theorem stepG_pre (F : Nat × Nat → Bool) (M N : zMa) (g : zGp) (Gs : List zGp) : ∃ t, stepG F M N g Gs = Gs ++ t := by
  obtain ⟨t1, e1⟩ := growG_pre F M N 1 g Gs
  obtain ⟨t2, e2⟩ := growG_pre F M N 2 g (growG F M N 1 g Gs)
  obtain ⟨t3, e3⟩ := growG_pre F M N 3 g (growG F M N 2 g (growG F M N 1 g Gs))
  exact ⟨t1 ++ t2 ++ t3, by unfold stepG; rw [e3, e2, e1]; simp⟩
theorem allK_app (A B : List zGp) : allK (A ++ B) = allK A ++ allK B := by unfold allK; rw [List.flatMap_append]
theorem allK_one (g : zGp) : allK [g] = g.1 := by simp [allK]
/-- all that is there behind a letter -/
theorem allK_grow (F : Nat × Nat → Bool) (M N : zMa) (l : Nat) (g : zGp) (Gs : List zGp) : allK (growG F M N l g Gs) = xGr F M N l (allK Gs) g.1 := by
  obtain ⟨t, e⟩ := xGr_pre F M N l (allK Gs) g.1
  unfold growG
  split
  · rename_i h
    rw [e, List.length_append] at h
    have : t = [] := List.length_eq_zero_iff.mp (by omega)
    rw [e, this, List.append_nil]
  · rw [allK_app, allK_one]
    show _ ++ List.drop _ _ = _
    rw [e, List.drop_left]
-- what holds of all that is there
def kOk (M N : zMa) (K : List zCf) : Prop := (∀ c ∈ K, c.1.1 < M.1 ∧ c.1.2 < N.1 ∧ lcp c.2.1 c.2.2 = 0) ∧ K.Pairwise fun k c => k.1 = c.1 → apt k = false ∧ k ≠ c
theorem lcp_drop : ∀ u v : zWo, lcp (u.drop (lcp u v)) (v.drop (lcp u v)) = 0
  | [], v => by simp [lcp]
  | x :: xs, [] => by simp [lcp]
  | x :: xs, y :: ys => by
    by_cases h : x = y
    · rw [lcp, if_pos h]
      simpa using lcp_drop xs ys
    · rw [lcp, if_neg h]
      simp [lcp, h]
theorem lcp_take1 {u v : zWo} (h : lcp u v = 0) : lcp (u.take 1) (v.take 1) = 0 := by
  cases u with
  | nil => simp [lcp]
  | cons x xs =>
    cases v with
    | nil => simp [lcp]
    | cons y ys =>
      by_cases e : x = y
      · rw [lcp, if_pos e] at h; omega
      · simp [lcp, e]
theorem cutD_lcp {d : zWo × zWo} (h : lcp d.1 d.2 = 0) : lcp (cutD d).1 (cutD d).2 = 0 := by
  unfold cutD
  split
  · exact lcp_take1 h
  · exact h
theorem rejC_any {K : List zCf} {c k : zCf} (hk : k ∈ K) (h1 : k.1 = c.1) (h2 : apt k = true ∨ k = c) : rejC K c = true := by
  unfold rejC
  rw [Bool.or_eq_true]
  right
  rw [List.any_eq_true]
  refine ⟨k, hk, ?_⟩
  rw [Bool.and_eq_true, Bool.or_eq_true, decide_eq_true_eq, decide_eq_true_eq]
  exact ⟨h1, h2⟩
theorem rejC_up {K t : List zCf} {c : zCf} (h : rejC K c = true) : rejC (K ++ t) c = true := by
  unfold rejC at *
  rw [Bool.or_eq_true, decide_eq_true_eq] at *
  rcases h with h | h
  · left
    rw [List.filter_append, List.length_append]
    omega
  · right
    rw [List.any_append, h]
    rfl
theorem rejC_add (K : List zCf) (c : zCf) : rejC (addC (fun _ => true) K c) c = true := by
  unfold addC
  split
  · exact rejC_any (k := c) (List.mem_append_right _ List.mem_cons_self) rfl (Or.inr rfl)
  · rename_i h
    cases q : rejC K c with
    | true => rfl
    | false => exact absurd ⟨rfl, q⟩ h
theorem addC_ok {F : Nat × Nat → Bool} {M N : zMa} {K : List zCf} {c : zCf} (h : kOk M N K) (hc : c.1.1 < M.1 ∧ c.1.2 < N.1 ∧ lcp c.2.1 c.2.2 = 0) : kOk M N (addC F K c) := by
  unfold addC
  split
  · rename_i hr
    refine ⟨fun k hk => ?_, ?_⟩
    · rcases List.mem_append.mp hk with q | q
      · exact h.1 k q
      · rw [List.mem_singleton.mp q]; exact hc
    · rw [List.pairwise_append]
      refine ⟨h.2, by simp, fun k hk d hd e => ?_⟩
      rw [List.mem_singleton.mp hd] at e ⊢
      refine ⟨?_, fun z => ?_⟩
      · cases q : apt k with
        | false => rfl
        | true => exact absurd (rejC_any hk e (Or.inl q)) (by rw [hr.2]; decide)
      · exact absurd (rejC_any hk e (Or.inr z)) (by rw [hr.2]; decide)
  · exact h
theorem stpC_ok {M N : zMa} (kM : MaOk M) (kN : MaOk N) (c : zCf) {a b : zArc} (ha : a ∈ M.2.2.2) (hb : b ∈ N.2.2.2) : (stpC c a b).1.1 < M.1 ∧ (stpC c a b).1.2 < N.1 ∧ lcp (stpC c a b).2.1 (stpC c a b).2.2 = 0 :=
  ⟨(kM.2.2.2.2 a ha).2.2.1, (kN.2.2.2.2 b hb).2.2.1, cutD_lcp (lcp_drop _ _)⟩
theorem xArc2_ok {F : Nat × Nat → Bool} {M N : zMa} (kM : MaOk M) (kN : MaOk N) {l : Nat} {c : zCf} {a b : zArc} {K : List zCf} (h : kOk M N K) (ha : a ∈ M.2.2.2) (hb : b ∈ N.2.2.2) : kOk M N (xArc2 F l c a K b) := by
  unfold xArc2
  split
  · exact addC_ok h (stpC_ok kM kN c ha hb)
  · exact h
theorem xArc_ok {F : Nat × Nat → Bool} {M N : zMa} (kM : MaOk M) (kN : MaOk N) {l : Nat} {c : zCf} {a : zArc} {K : List zCf} (h : kOk M N K) (ha : a ∈ M.2.2.2) : kOk M N (xArc F N l c K a) := by
  unfold xArc
  split
  · exact foldl_inv (P := kOk M N) (fun K b hb q => xArc2_ok kM kN q ha hb) h
  · exact h
theorem xCf_ok {F : Nat × Nat → Bool} {M N : zMa} (kM : MaOk M) (kN : MaOk N) {l : Nat} {c : zCf} {K : List zCf} (h : kOk M N K) : kOk M N (xCf F M N l K c) := foldl_inv (P := kOk M N) (fun K a ha q => xArc_ok kM kN q ha) h
theorem xGr_ok {F : Nat × Nat → Bool} {M N : zMa} (kM : MaOk M) (kN : MaOk N) {l : Nat} {K cs : List zCf} (h : kOk M N K) : kOk M N (xGr F M N l K cs) := foldl_inv (P := kOk M N) (fun K c _ q => xCf_ok kM kN q) h
theorem kOk_nil {M N : zMa} : kOk M N [] := ⟨fun _ h => (by cases h), List.Pairwise.nil⟩
theorem mem_begs {M : zMa} {q : Nat} : q ∈ begs M ↔ q < M.1 ∧ M.2.1.testBit q = true := by unfold begs; rw [List.mem_filter, List.mem_range]
theorem mem_iniC {M N : zMa} {c : zCf} : c ∈ iniC M N ↔ c.1.1 ∈ begs M ∧ c.1.2 ∈ begs N ∧ c.2 = ([], []) := by
  unfold iniC
  rw [List.mem_flatMap]
  constructor
  · rintro ⟨p, hp, h⟩
    obtain ⟨q, hq, rfl⟩ := List.mem_map.mp h
    exact ⟨hp, hq, rfl⟩
  · rintro ⟨h1, h2, h3⟩
    exact ⟨c.1.1, h1, List.mem_map.mpr ⟨c.1.2, h2, by rw [← h3]⟩⟩
theorem iniK_ok {F : Nat × Nat → Bool} {M N : zMa} : kOk M N (iniK F M N) := foldl_inv (P := kOk M N) (fun K c hc q => by
  obtain ⟨h1, h2, h3⟩ := mem_iniC.mp hc
  exact addC_ok q ⟨(mem_begs.mp h1).1, (mem_begs.mp h2).1, by rw [h3]; rfl⟩) kOk_nil
theorem allK_ini (F : Nat × Nat → Bool) (M N : zMa) : allK (iniG F M N) = iniK F M N := by
  unfold iniG
  split
  · rename_i h
    rw [List.length_eq_zero_iff.mp h]
    rfl
  · simp [allK]
theorem stepG_allK (F : Nat × Nat → Bool) (M N : zMa) (g : zGp) (Gs : List zGp) : allK (stepG F M N g Gs) = xGr F M N 3 (xGr F M N 2 (xGr F M N 1 (allK Gs) g.1) g.1) g.1 := by
  unfold stepG
  rw [allK_grow, allK_grow, allK_grow]
theorem seqG_ok {F : Nat × Nat → Bool} {M N : zMa} (kM : MaOk M) (kN : MaOk N) (i : Nat) : kOk M N (allK (seqG F M N i)) :=
  qSeq_inv (P := fun Gs => kOk M N (allK Gs)) (by rw [allK_ini]; exact iniK_ok) (fun g Gs _ h => by rw [stepG_allK]; exact xGr_ok kM kN (xGr_ok kM kN (xGr_ok kM kN h))) i
-- no more than 72
theorem len_keys {α : Type} (key : α → Nat) (b : Nat) : ∀ (n : Nat) (K : List α), (∀ x ∈ K, key x < n) → (∀ k, k < n → (K.filter fun x => decide (key x = k)).length ≤ b) → K.length ≤ b * n
  | 0, K, h, _ => by
    cases K with
    | nil => simp
    | cons x xs => exact absurd (h x List.mem_cons_self) (Nat.not_lt_zero _)
  | n + 1, K, h, g => by
    have e : ∀ K : List α, K.length = (K.filter fun x => decide (key x = n)).length + (K.filter fun x => !decide (key x = n)).length := by
      intro K
      induction K with
      | nil => rfl
      | cons x xs ih =>
        by_cases c : key x = n
        · simp [c]; omega
        · simp [c]; omega
    have i := len_keys key b n (K.filter fun x => !decide (key x = n)) (fun x hx => by
      obtain ⟨a, b⟩ := List.mem_filter.mp hx
      have := h x a
      have : ¬ key x = n := by simpa using b
      omega) (fun k hk => by
        rw [List.filter_filter]
        refine Nat.le_trans ?_ (g k (by omega))
        refine Nat.le_of_eq (congrArg List.length (List.filter_congr fun x _ => ?_))
        by_cases c : key x = k
        · have : ¬ k = n := by omega
          simp [c, this]
        · simp [c])
    have := g n (by omega)
    have := e K
    rw [Nat.mul_succ]
    omega
theorem pair_two {K : List zCf} (h : K.Pairwise fun k c => k.1 = c.1 → apt k = false ∧ k ≠ c) : ∀ (pq : Nat × Nat), 2 ≤ (K.filter fun k => decide (k.1 = pq)).length → ∃ k1 k2, k1 ∈ K ∧ k2 ∈ K ∧ k1.1 = pq ∧ k2.1 = pq ∧ apt k1 = false ∧ k1 ≠ k2 := by
  intro pq hl
  have hp := h.filter (fun k => decide (k.1 = pq))
  cases e : K.filter fun k => decide (k.1 = pq) with
  | nil => rw [e] at hl; simp at hl
  | cons k1 r =>
    cases e2 : r with
    | nil => rw [e, e2] at hl; simp at hl
    | cons k2 r2 =>
      rw [e, e2] at hp
      have m1 : k1 ∈ K.filter fun k => decide (k.1 = pq) := by rw [e]; exact List.mem_cons_self
      have m2 : k2 ∈ K.filter fun k => decide (k.1 = pq) := by rw [e, e2]; exact List.mem_cons_of_mem _ List.mem_cons_self
      obtain ⟨a1, a2⟩ := List.mem_filter.mp m1
      obtain ⟨b1, b2⟩ := List.mem_filter.mp m2
      have c1 : k1.1 = pq := by simpa using a2
      have c2 : k2.1 = pq := by simpa using b2
      have := (List.pairwise_cons.mp hp).1 k2 List.mem_cons_self (by rw [c1, c2])
      exact ⟨k1, k2, a1, b1, c1, c2, this.1, this.2⟩
def two (K : List zCf) : Prop := ∀ pq : Nat × Nat, (K.filter fun k => decide (k.1 = pq)).length ≤ 2
theorem addC_two {F : Nat × Nat → Bool} {K : List zCf} {c : zCf} (h : two K) : two (addC F K c) := by
  unfold addC
  split
  · rename_i hr
    intro pq
    rw [List.filter_append, List.length_append]
    by_cases e : c.1 = pq
    · have h1 := hr.2
      unfold rejC at h1
      rw [Bool.or_eq_false_iff, decide_eq_false_iff_not, e] at h1
      have : (List.filter (fun k : zCf => decide (k.1 = pq)) [c]).length ≤ 1 := Nat.le_trans (List.length_filter_le _ _) (by simp)
      omega
    · have : List.filter (fun k : zCf => decide (k.1 = pq)) [c] = [] := by simp [e]
      rw [this]
      exact h pq
  · exact h
theorem xGr_two {F : Nat × Nat → Bool} {M N : zMa} {l : Nat} {K cs : List zCf} (h : two K) : two (xGr F M N l K cs) :=
  foldl_inv (P := two) (fun K c _ q => foldl_inv (P := two) (fun K a _ q => by
    unfold xArc
    split
    · exact foldl_inv (P := two) (fun K b _ q => by
        unfold xArc2
        split
        · exact addC_two q
        · exact q) q
    · exact q) q) h
theorem seqG_two {F : Nat × Nat → Bool} {M N : zMa} (i : Nat) : two (allK (seqG F M N i)) :=
  qSeq_inv (P := fun Gs => two (allK Gs)) (by
    rw [allK_ini]
    exact foldl_inv (P := two) (fun K c _ q => addC_two q) (fun pq => by simp)) (fun g Gs _ h => by rw [stepG_allK]; exact xGr_two (xGr_two (xGr_two h))) i
theorem two_72 {M N : zMa} (kM : MaOk M) (kN : MaOk N) {K : List zCf} (h : kOk M N K) (h2 : two K) : K.length ≤ 72 := by
  have k1 := kM.1
  have k2 := kN.1
  have := len_keys (fun c : zCf => 6 * c.1.1 + c.1.2) 2 36 K (fun x hx => by
    have := h.1 x hx
    omega) (fun k hk => by
      refine Nat.le_trans (Nat.le_of_eq (congrArg List.length (List.filter_congr fun x hx => ?_))) (h2 (k / 6, k % 6))
      have := h.1 x hx
      rw [decide_eq_decide]
      constructor
      · intro e
        exact Prod.ext (by show x.1.1 = k / 6; omega) (by show x.1.2 = k % 6; omega)
      · intro e
        rw [e]
        show 6 * (k / 6) + k % 6 = k
        omega)
  omega
