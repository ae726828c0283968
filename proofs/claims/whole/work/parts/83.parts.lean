/-! Sets that cannot be told apart: parted again and again; their numbers. -/
section PT
variable {n : Nat} {E : Nat → Option zWo} {W : Nat → Option (zWo × Nat)}
def wAl (E : Nat → Option zWo) (W : Nat → Option (zWo × Nat)) (a b : Nat) : Bool := decide (E a = E b ∧ (W (3 * a)).map (·.1) = (W (3 * b)).map (·.1) ∧ (W (3 * a + 1)).map (·.1) = (W (3 * b + 1)).map (·.1) ∧ (W (3 * a + 2)).map (·.1) = (W (3 * b + 2)).map (·.1))
theorem wAl_iff {a b : Nat} : wAl E W a b = true ↔ E a = E b ∧ ∀ j, j < 3 → (W (3 * a + j)).map (·.1) = (W (3 * b + j)).map (·.1) := by
  unfold wAl
  rw [decide_eq_true_eq]
  constructor
  · rintro ⟨h, h0, h1, h2⟩
    refine ⟨h, fun j hj => ?_⟩
    rcases (show j = 0 ∨ j = 1 ∨ j = 2 by omega) with rfl | rfl | rfl
    · exact h0
    · exact h1
    · exact h2
  · rintro ⟨h, g⟩
    exact ⟨h, g 0 (by decide), g 1 (by decide), g 2 (by decide)⟩
def gA1 (B : Nat → Nat) (x y : Option (zWo × Nat)) : Bool := match x, y with
  | some p, some q => decide (B p.2 = B q.2)
  | _, _ => true
def gAl (B : Nat → Nat) (W : Nat → Option (zWo × Nat)) (a b : Nat) : Bool := gA1 B (W (3 * a)) (W (3 * b)) && gA1 B (W (3 * a + 1)) (W (3 * b + 1)) && gA1 B (W (3 * a + 2)) (W (3 * b + 2))
theorem gAl_iff {B : Nat → Nat} {a b : Nat} : gAl B W a b = true ↔ ∀ j, j < 3 → gA1 B (W (3 * a + j)) (W (3 * b + j)) = true := by
  unfold gAl
  rw [Bool.and_eq_true, Bool.and_eq_true]
  constructor
  · rintro ⟨⟨h0, h1⟩, h2⟩ j hj
    rcases (show j = 0 ∨ j = 1 ∨ j = 2 by omega) with rfl | rfl | rfl
    · exact h0
    · exact h1
    · exact h2
  · intro g
    exact ⟨⟨g 0 (by decide), g 1 (by decide)⟩, g 2 (by decide)⟩
/-- the first that is like s; s itself -/
def fstS (p : Nat → Bool) (s : Nat) : Nat := fdx p (List.range s)
theorem fstS_le (p : Nat → Bool) (s : Nat) : fstS p s ≤ s := by
  have := fdx_le (p := p) (List.range s)
  rw [List.length_range] at this
  exact this
theorem fstS_eq {p : Nat → Bool} {s f : Nat} (h1 : f < s → p f = true) (h2 : f ≤ s) (h3 : ∀ j, j < f → p j = false) : fstS p s = f := by
  unfold fstS
  by_cases c : f < s
  · exact fdx_at (e := f) (List.getElem?_range c) (h1 c) (fun j x hj hx => by
      rw [List.getElem?_range (by omega)] at hx
      cases hx
      exact h3 j hj)
  · have : f = s := by omega
    subst this
    rw [fdx_no, List.length_range]
    intro j x hx
    have hj := (List.getElem?_eq_some_iff.mp hx).1
    rw [List.length_range] at hj
    rw [List.getElem?_range hj] at hx
    cases hx
    exact h3 _ hj
theorem fstS_spec (p : Nat → Bool) (s : Nat) : (fstS p s < s → p (fstS p s) = true) ∧ ∀ j, j < fstS p s → p j = false := by
  have : ∀ m, m ≤ s → (∃ f, f ≤ m ∧ (f < m → p f = true) ∧ ∀ j, j < f → p j = false) := by
    intro m
    induction m with
    | zero => intro _; exact ⟨0, Nat.le_refl _, fun h => by omega, fun j h => by omega⟩
    | succ m ih =>
      intro hm
      obtain ⟨f, a, b, c⟩ := ih (by omega)
      by_cases q : f < m
      · exact ⟨f, by omega, fun _ => b q, c⟩
      · have : f = m := by omega
        subst this
        cases e : p f with
        | true => exact ⟨f, by omega, fun _ => e, c⟩
        | false => exact ⟨f + 1, Nat.le_refl _, fun h => by omega, fun j h => by
            by_cases z : j = f
            · rw [z]; exact e
            · exact c j (by omega)⟩
  obtain ⟨f, a, b, c⟩ := this s (Nat.le_refl _)
  rw [fstS_eq b a c]
  exact ⟨b, c⟩
theorem fstS_congr {p q : Nat → Bool} {s : Nat} (h : ∀ j, j < s → p j = q j) : fstS p s = fstS q s := by
  have a := fstS_spec q s
  have b := fstS_le q s
  exact fstS_eq (fun c => by rw [h _ c]; exact a.1 c) b (fun j hj => by rw [h j (by omega)]; exact a.2 j hj)
def pB0 (E : Nat → Option zWo) (W : Nat → Option (zWo × Nat)) (s : Nat) : Nat := fstS (fun f => wAl E W f s) s
def pRf (W : Nat → Option (zWo × Nat)) (B : Nat → Nat) (s : Nat) : Nat := fstS (fun f => decide (B f = B s) && gAl B W f s) s
def pSeq (E : Nat → Option zWo) (W : Nat → Option (zWo × Nat)) : Nat → Nat → Nat
  | 0 => pB0 E W
  | i + 1 => pRf W (pSeq E W i)
/-- each is called by the first of its block, and what is in a block writes alike -/
def pOk' (n : Nat) (E : Nat → Option zWo) (W : Nat → Option (zWo × Nat)) (B : Nat → Nat) : Prop := (∀ s, s < n → B s ≤ s ∧ B (B s) = B s) ∧ ∀ a b, a < n → b < n → B a = B b → wAl E W a b = true
/-- an equivalence's first ones -/
theorem first_ok {R : Nat → Nat → Bool} (hr : ∀ a, a < n → R a a = true) (hs : ∀ a b, a < n → b < n → R a b = true → R b a = true) (ht : ∀ a b c, a < n → b < n → c < n → R a b = true → R b c = true → R a c = true) :
    (∀ s, s < n → fstS (fun f => R f s) s ≤ s ∧ R (fstS (fun f => R f s) s) s = true ∧ fstS (fun f => R f (fstS (fun f => R f s) s)) (fstS (fun f => R f s) s) = fstS (fun f => R f s) s) ∧ ∀ a b, a < n → b < n → (fstS (fun f => R f a) a = fstS (fun f => R f b) b ↔ R a b = true) := by
  have h1 : ∀ s, s < n → fstS (fun f => R f s) s ≤ s ∧ R (fstS (fun f => R f s) s) s = true := by
    intro s hs'
    have a := fstS_spec (fun f => R f s) s
    have b := fstS_le (fun f => R f s) s
    refine ⟨b, ?_⟩
    rcases Nat.lt_or_ge (fstS (fun f => R f s) s) s with c | c
    · exact a.1 c
    · rw [show fstS (fun f => R f s) s = s by omega]; exact hr s hs'
  have h2 : ∀ a b, a < n → b < n → R a b = true → fstS (fun f => R f a) a ≤ fstS (fun f => R f b) b := by
    intro a b ha hb hab
    have sb := h1 b hb
    have sa := fstS_spec (fun f => R f a) a
    rcases Nat.lt_or_ge (fstS (fun f => R f b) b) (fstS (fun f => R f a) a) with c | c
    · have := sa.2 _ c
      have t := ht _ _ _ (by omega) hb ha sb.2 (hs _ _ ha hb hab)
      rw [t] at this
      cases this
    · exact c
  refine ⟨fun s hs' => ⟨(h1 s hs').1, (h1 s hs').2, ?_⟩, fun a b ha hb => ⟨fun e => ?_, fun hab => ?_⟩⟩
  · have s1 := h1 s hs'
    have s2 := h2 s _ hs' (by omega) (hs _ _ (by omega) hs' s1.2)
    have s3 := fstS_le (fun f => R f (fstS (fun f => R f s) s)) (fstS (fun f => R f s) s)
    omega
  · have sa := h1 a ha
    have sb := h1 b hb
    rw [e] at sa
    exact ht _ _ _ ha (by omega) hb (hs _ _ (by omega) ha sa.2) sb.2
  · have := h2 a b ha hb hab
    have := h2 b a hb ha (hs _ _ ha hb hab)
    omega
theorem wAl_rf (a : Nat) : wAl E W a a = true := wAl_iff.mpr ⟨rfl, fun _ _ => rfl⟩
theorem wAl_sy {a b : Nat} (h : wAl E W a b = true) : wAl E W b a = true := by
  obtain ⟨h1, h2⟩ := wAl_iff.mp h
  exact wAl_iff.mpr ⟨h1.symm, fun j hj => (h2 j hj).symm⟩
theorem wAl_tr {a b c : Nat} (h : wAl E W a b = true) (g : wAl E W b c = true) : wAl E W a c = true := by
  obtain ⟨h1, h2⟩ := wAl_iff.mp h
  obtain ⟨g1, g2⟩ := wAl_iff.mp g
  exact wAl_iff.mpr ⟨h1.trans g1, fun j hj => (h2 j hj).trans (g2 j hj)⟩
theorem pB0_ok : pOk' n E W (pB0 E W) := by
  obtain ⟨a, b⟩ := first_ok (n := n) (R := fun x y => wAl E W x y) (fun x _ => wAl_rf x) (fun x y _ _ h => wAl_sy h) (fun x y z _ _ _ h g => wAl_tr h g)
  exact ⟨fun s hs => ⟨(a s hs).1, (a s hs).2.2⟩, fun x y hx hy e => (b x y hx hy).mp e⟩
theorem gA1_rf (B : Nat → Nat) (x : Option (zWo × Nat)) : gA1 B x x = true := by
  cases x with
  | none => rfl
  | some p => exact decide_eq_true rfl
theorem gA1_sy {B : Nat → Nat} {x y : Option (zWo × Nat)} (h : gA1 B x y = true) : gA1 B y x = true := by
  cases x with
  | none => cases y <;> rfl
  | some p =>
    cases y with
    | none => rfl
    | some q => exact decide_eq_true (of_decide_eq_true h).symm
theorem gA1_tr {B : Nat → Nat} {x y z : Option (zWo × Nat)} (e : x.map (·.1) = y.map (·.1)) (h : gA1 B x y = true) (g : gA1 B y z = true) : gA1 B x z = true := by
  cases x with
  | none => cases z <;> rfl
  | some p =>
    cases y with
    | none => cases e
    | some q =>
      cases z with
      | none => rfl
      | some r => exact decide_eq_true ((of_decide_eq_true h).trans (of_decide_eq_true g))
def pR (W : Nat → Option (zWo × Nat)) (B : Nat → Nat) (f s : Nat) : Bool := decide (B f = B s) && gAl B W f s
theorem pR_iff {B : Nat → Nat} {f s : Nat} : pR W B f s = true ↔ B f = B s ∧ ∀ j, j < 3 → gA1 B (W (3 * f + j)) (W (3 * s + j)) = true := by
  unfold pR
  rw [Bool.and_eq_true, decide_eq_true_eq, gAl_iff]
theorem pRf_first {B : Nat → Nat} (h : pOk' n E W B) : (∀ s, s < n → pRf W B s ≤ s ∧ pR W B (pRf W B s) s = true ∧ pRf W B (pRf W B s) = pRf W B s) ∧ ∀ a b, a < n → b < n → (pRf W B a = pRf W B b ↔ pR W B a b = true) :=
  first_ok (n := n) (R := pR W B) (fun x _ => pR_iff.mpr ⟨rfl, fun j _ => gA1_rf _ _⟩) (fun x y _ _ h => by
    obtain ⟨h1, h2⟩ := pR_iff.mp h
    exact pR_iff.mpr ⟨h1.symm, fun j hj => gA1_sy (h2 j hj)⟩) (fun x y z hx hy _ h1 g1 => by
    obtain ⟨a1, a2⟩ := pR_iff.mp h1
    obtain ⟨b1, b2⟩ := pR_iff.mp g1
    have w := (wAl_iff.mp (h.2 x y hx hy a1)).2
    exact pR_iff.mpr ⟨a1.trans b1, fun j hj => gA1_tr (w j hj) (a2 j hj) (b2 j hj)⟩)
theorem pRf_ok {B : Nat → Nat} (h : pOk' n E W B) : pOk' n E W (pRf W B) := by
  obtain ⟨a, b⟩ := pRf_first h
  exact ⟨fun s hs => ⟨(a s hs).1, (a s hs).2.2⟩, fun x y hx hy e => h.2 x y hx hy (pR_iff.mp ((b x y hx hy).mp e)).1⟩
theorem pSeq_ok : ∀ i, pOk' n E W (pSeq E W i)
  | 0 => pB0_ok
  | i + 1 => pRf_ok (pSeq_ok i)
/-- the parting of a set looks at the sets ahead of it and at goals alone -/
theorem pRf_congr {B C : Nat → Nat} (hW : ∀ i p, W i = some p → p.2 < n) (h : ∀ s, s < n → B s = C s) {s : Nat} (hs : s < n) : pRf W B s = pRf W C s := by
  refine fstS_congr (fun f hf => ?_)
  have e : ∀ i i', gA1 B (W i) (W i') = gA1 C (W i) (W i') := by
    intro i i'
    cases e1 : W i with
    | none => cases W i' <;> rfl
    | some p =>
      cases e2 : W i' with
      | none => rfl
      | some q =>
        show decide (B p.2 = B q.2) = decide (C p.2 = C q.2)
        rw [h _ (hW i p e1), h _ (hW i' q e2)]
  unfold gAl
  rw [h f (by omega), h s hs, e, e, e]
theorem pSeq_still (hW : ∀ i p, W i = some p → p.2 < n) {i : Nat} (h : ∀ s, s < n → pSeq E W i s = pSeq E W (i + 1) s) : ∀ d s, s < n → pSeq E W (i + d) s = pSeq E W i s
  | 0, s, _ => rfl
  | d + 1, s, hs => by
    have ih := pSeq_still hW h d
    have : pSeq E W (i + (d + 1)) s = pSeq E W (i + 1) s := pRf_congr hW ih hs
    rw [this, ← h s hs]
theorem pSeq_end (hW : ∀ i p, W i = some p → p.2 < n) : ∀ s, s < n → pSeq E W n s = pSeq E W (n + 1) s := by
  have rep : ∀ i s, s < n → pSeq E W i s = s → pSeq E W (i + 1) s = s := by
    intro i s hs e
    have ok := pSeq_ok (n := n) (E := E) (W := W) i
    obtain ⟨a, b⟩ := pRf_first ok
    have a1 := a s hs
    have e1 := (pR_iff.mp a1.2.1).1
    have := (ok.1 (pRf W (pSeq E W i) s) (by omega)).1
    show pRf W (pSeq E W i) s = s
    omega
  have back : ∀ i, (∀ s, s < n → decide (pSeq E W i s = s) = decide (pSeq E W (i + 1) s = s)) → ∀ s, s < n → pSeq E W i s = pSeq E W (i + 1) s := by
    intro i h s hs
    have ok := pSeq_ok (n := n) (E := E) (W := W) i
    obtain ⟨a, b⟩ := pRf_first ok
    have a1 := a s hs
    have hf : pSeq E W (i + 1) (pRf W (pSeq E W i) s) = pRf W (pSeq E W i) s := a1.2.2
    have h1 := h (pRf W (pSeq E W i) s) (by omega)
    rw [decide_eq_true hf] at h1
    have h2 := of_decide_eq_true h1
    have e1 := (pR_iff.mp a1.2.1).1
    show _ = pRf W (pSeq E W i) s
    omega
  refine back n ?_
  exact chain (N := n) (fun i s => decide (pSeq E W i s = s)) (fun i s hs h => decide_eq_true (rep i s hs (of_decide_eq_true h))) (fun i h s hs => by
    have e := back i h
    have : pSeq E W (i + 2) s = pSeq E W (i + 1) s := (pRf_congr hW e hs).symm
    show decide (pSeq E W (i + 1) s = s) = decide (pSeq E W (i + 2) s = s)
    rw [this]) n (by omega)
/-- all blocks as they are at the end -/
def pFin (E : Nat → Option zWo) (W : Nat → Option (zWo × Nat)) : Nat → Nat := pSeq E W 100
theorem pFin_of (hW : ∀ i p, W i = some p → p.2 < n) (hn : n ≤ 100) {i : Nat} (h : (∀ s, s < n → pSeq E W i s = pSeq E W (i + 1) s) ∨ n ≤ i) : ∀ s, s < n → pSeq E W i s = pFin E W s := by
  have h' : ∀ s, s < n → pSeq E W i s = pSeq E W (i + 1) s := by
    rcases h with h | h
    · exact h
    · intro s hs
      have a := pSeq_still hW (pSeq_end (n := n) (E := E) (W := W) hW) (i - n) s hs
      have b := pSeq_still hW (pSeq_end (n := n) (E := E) (W := W) hW) (i + 1 - n) s hs
      rw [show n + (i - n) = i by omega] at a
      rw [show n + (i + 1 - n) = i + 1 by omega] at b
      rw [a, b]
  intro s hs
  have c := pSeq_still hW (pSeq_end (n := n) (E := E) (W := W) hW) (100 - n) s hs
  rw [show n + (100 - n) = 100 by omega] at c
  rcases Nat.le_total i n with q | q
  · have d := pSeq_still hW h' (n - i) s hs
    rw [show i + (n - i) = n by omega] at d
    rw [← d]
    exact c.symm
  · have d := pSeq_still hW (pSeq_end (n := n) (E := E) (W := W) hW) (i - n) s hs
    rw [show n + (i - n) = i by omega] at d
    rw [d]
    exact c.symm
theorem pFin_ok : pOk' n E W (pFin E W) := pSeq_ok 100
theorem pFin_go (hW : ∀ i p, W i = some p → p.2 < n) (hn : n ≤ 100) {a b : Nat} (ha : a < n) (hb : b < n) (e : pFin E W a = pFin E W b) {j : Nat} (hj : j < 3) : gA1 (pFin E W) (W (3 * a + j)) (W (3 * b + j)) = true := by
  have st : ∀ s, s < n → pSeq E W 100 s = pSeq E W 101 s := by
    intro s hs
    have x := pSeq_still hW (pSeq_end (n := n) (E := E) (W := W) hW) (100 - n) s hs
    have y := pSeq_still hW (pSeq_end (n := n) (E := E) (W := W) hW) (101 - n) s hs
    rw [show n + (100 - n) = 100 by omega] at x
    rw [show n + (101 - n) = 101 by omega] at y
    rw [x, y]
  have e2 : pRf W (pSeq E W 100) a = pRf W (pSeq E W 100) b := by
    have x := st a ha
    have y := st b hb
    exact x.symm.trans ((show pSeq E W 100 a = pSeq E W 100 b from e).trans y)
  exact (pR_iff.mp (((pRf_first (pSeq_ok (n := n) 100)).2 a b ha hb).mp e2)).2 j hj
/-- a block's way leads where its first set's way leads -/
theorem pFin_way (hW : ∀ i p, W i = some p → p.2 < n) (hn : n ≤ 100) {a b : Nat} (ha : a < n) (hb : b < n) (e : pFin E W a = pFin E W b) {j : Nat} (hj : j < 3) : (W (3 * a + j)).map (fun p => (p.1, pFin E W p.2)) = (W (3 * b + j)).map (fun p => (p.1, pFin E W p.2)) := by
  have h1 := pFin_go hW hn ha hb e hj
  have h2 := (wAl_iff.mp (pFin_ok.2 a b ha hb e)).2 j hj
  cases x : W (3 * a + j) with
  | none =>
    rw [x] at h2
    cases y : W (3 * b + j) with
    | none => rfl
    | some q => rw [y] at h2; cases h2
  | some p =>
    rw [x] at h1 h2
    cases y : W (3 * b + j) with
    | none => rw [y] at h2; cases h2
    | some q =>
      rw [y] at h1 h2
      have e1 : p.1 = q.1 := Option.some.inj h2
      have e2 : pFin E W p.2 = pFin E W q.2 := of_decide_eq_true h1
      show some (p.1, _) = some (q.1, _)
      rw [e1, e2]
theorem pFin_end {a b : Nat} (ha : a < n) (hb : b < n) (e : pFin E W a = pFin E W b) : E a = E b := (wAl_iff.mp (pFin_ok.2 a b ha hb e)).1
-- numbers
def nmAdd (c : Nat) (P : List Nat) : List Nat := if c ∈ P then P else P ++ [c]
def nmJ (B : Nat → Nat) (o : Option (zWo × Nat)) (P : List Nat) : List Nat := match o with
  | some p => nmAdd (B p.2) P
  | none => P
def nmStep (B : Nat → Nat) (W : Nat → Option (zWo × Nat)) (r : Nat) (P : List Nat) : List Nat := nmJ B (W (3 * r + 2)) (nmJ B (W (3 * r + 1)) (nmJ B (W (3 * r)) P))
def nmSeq (n : Nat) (B : Nat → Nat) (W : Nat → Option (zWo × Nat)) : Nat → List Nat := qSeq (nmStep B W) (if n = 0 then [] else [0])
def nmP (n : Nat) (B : Nat → Nat) (W : Nat → Option (zWo × Nat)) : List Nat := nmSeq n B W 100
theorem nmAdd_pre (c : Nat) (P : List Nat) : ∃ t, nmAdd c P = P ++ t := by
  unfold nmAdd
  split
  · exact ⟨[], by simp⟩
  · exact ⟨_, rfl⟩
theorem nmJ_pre (B : Nat → Nat) (o : Option (zWo × Nat)) (P : List Nat) : ∃ t, nmJ B o P = P ++ t := by
  unfold nmJ
  split
  · exact nmAdd_pre _ _
  · exact ⟨[], by simp⟩
theorem nmStep_pre (B : Nat → Nat) (W : Nat → Option (zWo × Nat)) (r : Nat) (P : List Nat) : ∃ t, nmStep B W r P = P ++ t := by
  obtain ⟨t1, e1⟩ := nmJ_pre B (W (3 * r)) P
  obtain ⟨t2, e2⟩ := nmJ_pre B (W (3 * r + 1)) (nmJ B (W (3 * r)) P)
  obtain ⟨t3, e3⟩ := nmJ_pre B (W (3 * r + 2)) (nmJ B (W (3 * r + 1)) (nmJ B (W (3 * r)) P))
  exact ⟨t1 ++ t2 ++ t3, by unfold nmStep; rw [e3, e2, e1]; simp⟩
def nmOk (n : Nat) (B : Nat → Nat) (P : List Nat) : Prop := P.Nodup ∧ ∀ c ∈ P, c < n ∧ B c = c
theorem nmJ_ok {B : Nat → Nat} (hB : ∀ s, s < n → B s ≤ s ∧ B (B s) = B s) {o : Option (zWo × Nat)} (ho : ∀ p, o = some p → p.2 < n) {P : List Nat} (h : nmOk n B P) : nmOk n B (nmJ B o P) := by
  cases o with
  | none => exact h
  | some p =>
    have hp := ho p rfl
    show nmOk n B (nmAdd (B p.2) P)
    unfold nmAdd
    split
    · exact h
    · rename_i c
      refine ⟨?_, fun x hx => ?_⟩
      · rw [List.nodup_append]
        refine ⟨h.1, by simp, fun x hx y hy e => ?_⟩
        rw [List.mem_singleton.mp hy] at e
        rw [e] at hx
        exact c hx
      · rcases List.mem_append.mp hx with q | q
        · exact h.2 x q
        · rw [List.mem_singleton.mp q]
          have := hB _ hp
          exact ⟨by omega, this.2⟩
theorem nmSeq_ok {B : Nat → Nat} (hB : ∀ s, s < n → B s ≤ s ∧ B (B s) = B s) (hW : ∀ i p, W i = some p → p.2 < n) (i : Nat) : nmOk n B (nmSeq n B W i) :=
  qSeq_inv (P := nmOk n B) (by
    split
    · exact ⟨List.nodup_nil, fun c h => by cases h⟩
    · refine ⟨by simp, fun c h => ?_⟩
      rw [List.mem_singleton.mp h]
      have := hB 0 (by omega)
      exact ⟨by omega, by omega⟩) (fun r P _ h => nmJ_ok hB (hW _) (nmJ_ok hB (hW _) (nmJ_ok hB (hW _) h))) i
theorem nodup_len : ∀ (n : Nat) (P : List Nat), P.Nodup → (∀ c ∈ P, c < n) → P.length ≤ n := by
  intro n P h1 h2
  have := len_keys (fun c : Nat => c) 1 n P h2 (fun k _ => by
    have hn := h1.filter (fun x => decide (x = k))
    cases e : P.filter fun x => decide (x = k) with
    | nil => simp
    | cons x xs =>
      cases xs with
      | nil => simp
      | cons y ys =>
        exfalso
        rw [e] at hn
        have mx : x ∈ P.filter fun x => decide (x = k) := by rw [e]; exact List.mem_cons_self
        have my : y ∈ P.filter fun x => decide (x = k) := by rw [e]; exact List.mem_cons_of_mem _ List.mem_cons_self
        have ex : x = k := of_decide_eq_true (List.mem_filter.mp mx).2
        have ey : y = k := of_decide_eq_true (List.mem_filter.mp my).2
        have := (List.nodup_cons.mp hn).1
        rw [ex, ey] at this
        exact this List.mem_cons_self)
  omega
theorem nmSeq_len {B : Nat → Nat} (hB : ∀ s, s < n → B s ≤ s ∧ B (B s) = B s) (hW : ∀ i p, W i = some p → p.2 < n) (i : Nat) : (nmSeq n B W i).length ≤ n := by
  have := nmSeq_ok hB hW i
  exact nodup_len n _ this.1 (fun c hc => (this.2 c hc).1)
theorem nmJ_mem {B : Nat → Nat} {p : zWo × Nat} {P : List Nat} : B p.2 ∈ nmJ B (some p) P := by
  show B p.2 ∈ nmAdd (B p.2) P
  unfold nmAdd
  split
  · assumption
  · exact List.mem_append_right _ List.mem_cons_self
/-- all that is come to has a number -/
theorem nmP_closed {B : Nat → Nat} (hB : ∀ s, s < n → B s ≤ s ∧ B (B s) = B s) (hW : ∀ i p, W i = some p → p.2 < n) (hn : n ≤ 100) {r j : Nat} {p : zWo × Nat} (hr : r ∈ nmP n B W) (hj : j < 3) (e : W (3 * r + j) = some p) : B p.2 ∈ nmP n B W := by
  have hl := nmSeq_len hB hW 100
  unfold nmP nmSeq at *
  obtain ⟨k, hk, ek⟩ := List.mem_iff_getElem.mp hr
  obtain ⟨t1, t2⟩ := qSeq_turn (nmStep_pre B W) (j := 100) (k := k) (e := r) (by
    rw [List.getElem?_eq_getElem hk, ek])
  obtain ⟨t, et⟩ := qSeq_pre (s0 := if n = 0 then [] else [0]) (nmStep_pre B W) (k + 1) (100 - (k + 1))
  have hk2 : k < 100 := by omega
  rw [show k + 1 + (100 - (k + 1)) = 100 by omega, t2] at et
  rw [et]
  refine List.mem_append_left _ ?_
  have up : ∀ {A C : List Nat}, (∃ t, C = A ++ t) → B p.2 ∈ A → B p.2 ∈ C := by
    rintro A C ⟨t, rfl⟩ h
    exact List.mem_append_left _ h
  unfold nmStep
  rcases (show j = 0 ∨ j = 1 ∨ j = 2 by omega) with rfl | rfl | rfl
  · refine up (nmJ_pre _ _ _) (up (nmJ_pre _ _ _) ?_)
    have e : W (3 * r) = some p := e
    rw [e]
    exact nmJ_mem
  · refine up (nmJ_pre _ _ _) ?_
    rw [e]
    exact nmJ_mem
  · rw [e]
    exact nmJ_mem
end PT
