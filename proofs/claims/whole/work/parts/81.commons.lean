/-! The class: one thing that may be written from each set, then shortened till it begins all. -/
theorem up_at {α : Type} (f : Nat → α) (a : Nat) (x : α) : va_up f a x a = x := va_up_self _ _ _
def gsJ (X : zSs) (K : Nat → Option Nat) (r s : Nat) : Nat → Nat → Option (zWo × Nat)
  | 0, _ => none
  | f + 1, j => match goAt X (3 * s + j) with
    | some (o, g) => if K g = some (r - 1) then some (o, g) else gsJ X K r s f (j + 1)
    | none => gsJ X K r s f (j + 1)
theorem gsJ_some {X : zSs} {K : Nat → Option Nat} {r s : Nat} {p : zWo × Nat} : ∀ (f j : Nat), gsJ X K r s f j = some p → ∃ i, j ≤ i ∧ i < j + f ∧ goAt X (3 * s + i) = some p ∧ K p.2 = some (r - 1)
  | 0, j, h => by cases h
  | f + 1, j, h => by
    unfold gsJ at h
    split at h
    · rename_i o g e
      split at h
      · rename_i c
        cases h
        exact ⟨j, Nat.le_refl _, by omega, e, c⟩
      · obtain ⟨i, a, b, c⟩ := gsJ_some f (j + 1) h
        exact ⟨i, by omega, by omega, c⟩
    · obtain ⟨i, a, b, c⟩ := gsJ_some f (j + 1) h
      exact ⟨i, by omega, by omega, c⟩
theorem gsJ_none {X : zSs} {K : Nat → Option Nat} {r s : Nat} : ∀ (f j : Nat), gsJ X K r s f j = none → ∀ i, j ≤ i → i < j + f → ∀ o g, goAt X (3 * s + i) = some (o, g) → K g ≠ some (r - 1)
  | 0, j, _, i, h1, h2, _, _, _ => by omega
  | f + 1, j, h, i, h1, h2, o, g, e => by
    unfold gsJ at h
    by_cases c : i = j
    · subst c
      rw [e] at h
      dsimp only at h
      split at h
      · cases h
      · assumption
    · split at h
      · split at h
        · cases h
        · exact gsJ_none f (j + 1) h i (by omega) (by omega) o g e
      · exact gsJ_none f (j + 1) h i (by omega) (by omega) o g e
abbrev zGu : Type := (Nat → Option Nat) × (Nat → zWo) × Nat
def guI (M : zMa) (X : zSs) (S : zGu) (s : Nat) : zGu := match stEnd M (seAt X s) with
  | some v => (va_up S.1 s (some 0), va_up S.2.1 s v, S.2.2 + 1)
  | none => (va_up S.1 s none, S.2.1, S.2.2)
def guS (X : zSs) (r : Nat) (S : zGu) (s : Nat) : zGu := if S.1 s = none then match gsJ X S.1 r s 3 0 with
    | some (o, g) => (va_up S.1 s (some r), va_up S.2.1 s (o ++ S.2.1 g), S.2.2 + 1)
    | none => S
  else S
def guR (X : zSs) (n r : Nat) (S : zGu) : zGu := (List.range n).foldl (guS X r) S
def guL (X : zSs) (n : Nat) : Nat → Nat → zGu → zGu
  | 0, _, S => S
  | f + 1, r, S => if r ≤ n ∧ S.2.2 < n then guL X n f (r + 1) (guR X n r S) else S
theorem cntP_up {n t : Nat} {S T : Nat → Bool} (ht : t < n) (h1 : S t = false) (h2 : T t = true) (h : ∀ x, x < n → x ≠ t → S x = T x) : cntP n T = cntP n S + 1 := by
  have same : ∀ m, m ≤ t → cntP m S = cntP m T := by
    intro m
    induction m with
    | zero => intro _; rfl
    | succ m ih =>
      intro hm
      rw [cntP_succ, cntP_succ, ih (by omega), h m (by omega) (by omega)]
  have rest : ∀ m, t < m → m ≤ n → cntP m T = cntP m S + 1 := by
    intro m
    induction m with
    | zero => intro hm; omega
    | succ m ih =>
      intro hm hn
      rw [cntP_succ, cntP_succ]
      by_cases c : m = t
      · subst c
        rw [h1, h2, same m (Nat.le_refl _)]
        simp
      · rw [ih (by omega) (by omega), h m (by omega) c]
        omega
  exact rest n ht (Nat.le_refl _)
theorem cntP_full {n : Nat} {S : Nat → Bool} (h : n ≤ cntP n S) : ∀ x, x < n → S x = true := by
  have e := (cntP_mono n (S := S) (T := fun _ => true) (fun _ _ _ => rfl))
  have h2 : cntP n (fun _ => true) ≤ n := cntP_le _ _
  exact fun x hx => e.2 (by omega) x hx
theorem fold_range {β : Type} {f : β → Nat → β} {P : Nat → β → Prop} {n : Nat} (st : ∀ i b, i < n → P i b → P (i + 1) (f b i)) : ∀ (s : β), P 0 s → P n ((List.range n).foldl f s) := by
  have : ∀ m, m ≤ n → ∀ s, P 0 s → P m ((List.range m).foldl f s) := by
    intro m
    induction m with
    | zero => intro _ s h; exact h
    | succ m ih =>
      intro hm s h
      rw [List.range_succ, List.foldl_append]
      exact st m _ (by omega) (ih (by omega) s h)
  exact this n (Nat.le_refl _)
section GU
variable {M : zMa}
/-- what is known ahead of the round r, with t sets of it gone through -/
def guOk (M : zMa) (r t : Nat) (S : zGu) : Prop := (∀ s k, s < (sMake M).1.length → S.1 s = some k → k ≤ r ∧ lgW M (sMake M) k s (S.2.1 s)) ∧
  (∀ s k v, s < (sMake M).1.length → k < r → lgW M (sMake M) k s v → ∃ k', k' ≤ k ∧ S.1 s = some k') ∧
  (∀ s v, s < t → lgW M (sMake M) r s v → ∃ k', k' ≤ r ∧ S.1 s = some k') ∧
  S.2.2 = cntP (sMake M).1.length (fun s => (S.1 s).isSome)
theorem guS_len (h : sGood M) {r t : Nat} {S : zGu} (ht : t < (sMake M).1.length) (h1 : guOk M (r + 1) t S) (hn : S.1 t = none) {o : zWo} {g : Nat} (e : gsJ (sMake M) S.1 (r + 1) t 3 0 = some (o, g)) : g < (sMake M).1.length ∧ lgW M (sMake M) (r + 1) t (o ++ S.2.1 g) ∧ (o ++ S.2.1 g).length ≤ 129 ∧ (S.2.1 g).length ≤ 129 := by
  obtain ⟨a, b, c, d⟩ := h1
  obtain ⟨i, i1, i2, i3, i4⟩ := gsJ_some _ _ e
  have hg := (h.go_lt i3 (by omega)).2
  have hl : lgW M (sMake M) (r + 1) t (o ++ S.2.1 g) := ⟨i, by omega, o, g, i3, _, (a g r hg i4).2, rfl⟩
  have hr : r + 1 ≤ 6 := by
    obtain ⟨k, v, hk, hv⟩ := lg_some h ht
    rcases Nat.lt_or_ge k (r + 1) with q | q
    · obtain ⟨k', _, z⟩ := b t k v ht q hv
      rw [hn] at z
      cases z
    · omega
  have l1 := (lg_len2 h hl).1
  have l2 := (lg_len2 h (a g r hg i4).2).1
  exact ⟨hg, hl, by omega, by omega⟩
theorem guS_ok (h : sGood M) {r t : Nat} {S : zGu} (ht : t < (sMake M).1.length) (h1 : guOk M (r + 1) t S) : guOk M (r + 1) (t + 1) (guS (sMake M) (r + 1) S t) := by
  obtain ⟨a, b, c, d⟩ := id h1
  unfold guS
  by_cases hn : S.1 t = none
  · rw [if_pos hn]
    cases e : gsJ (sMake M) S.1 (r + 1) t 3 0 with
    | none =>
      dsimp only
      refine ⟨a, b, fun s v hs hv => ?_, d⟩
      by_cases q : s = t
      · subst q
        exfalso
        obtain ⟨j, hj, o, g, eg, v', hv', _⟩ := hv
        have hg := (h.go_lt eg hj).2
        obtain ⟨k', k1, k2⟩ := b g r v' hg (by omega) hv'
        by_cases q2 : k' = r
        · subst q2
          exact gsJ_none _ _ e j (Nat.zero_le _) (by omega) o g eg (by rw [k2]; rfl)
        · obtain ⟨k3, _, z⟩ := b s (k' + 1) (o ++ S.2.1 g) ht (by omega) ⟨j, hj, o, g, eg, _, (a g k' hg k2).2, rfl⟩
          rw [hn] at z
          cases z
      · exact c s v (by omega) hv
    | some p =>
      obtain ⟨o, g⟩ := p
      obtain ⟨_, hl, _, _⟩ := guS_len h ht h1 hn e
      dsimp only
      refine ⟨fun s k hs hk => ?_, fun s k v hs hk hv => ?_, fun s v hs hv => ?_, ?_⟩
      · dsimp only at hk ⊢
        rw [va_up_both] at hk
        by_cases q : s = t
        · subst q
          rw [if_pos rfl] at hk
          cases hk
          rw [up_at]
          exact ⟨Nat.le_refl _, hl⟩
        · rw [if_neg q] at hk
          rw [va_up_ne _ _ q]
          exact a s k hs hk
      · obtain ⟨k', k1, k2⟩ := b s k v hs hk hv
        by_cases q : s = t
        · subst q; rw [hn] at k2; cases k2
        · exact ⟨k', k1, by dsimp only; rw [va_up_ne _ _ q]; exact k2⟩
      · by_cases q : s = t
        · subst q
          exact ⟨r + 1, Nat.le_refl _, up_at _ _ _⟩
        · obtain ⟨k', k1, k2⟩ := c s v (by omega) hv
          exact ⟨k', k1, by dsimp only; rw [va_up_ne _ _ q]; exact k2⟩
      · dsimp only
        rw [d]
        exact (cntP_up ht (by rw [hn]; rfl) (by rw [up_at]; rfl) (fun x hx hne => by rw [va_up_ne _ _ hne])).symm
  · rw [if_neg hn]
    refine ⟨a, b, fun s v hs hv => ?_, d⟩
    by_cases q : s = t
    · subst q
      cases e : S.1 s with
      | none => exact absurd e hn
      | some k => exact ⟨k, (a s k ht e).1, rfl⟩
    · exact c s v (by omega) hv
theorem guR_ok (h : sGood M) {r : Nat} {S : zGu} (h1 : guOk M (r + 1) 0 S) : guOk M (r + 1 + 1) 0 (guR (sMake M) (sMake M).1.length (r + 1) S) := by
  have := fold_range (P := fun t S => guOk M (r + 1) t S) (f := guS (sMake M) (r + 1)) (n := (sMake M).1.length) (fun t S ht hS => guS_ok h ht hS) S h1
  obtain ⟨a, b, c, d⟩ := this
  refine ⟨fun s k hs hk => ⟨by have := (a s k hs hk).1; omega, (a s k hs hk).2⟩, fun s k v hs hk hv => ?_, fun s v hs _ => absurd hs (Nat.not_lt_zero _), d⟩
  by_cases q : k = r + 1
  · subst q
    exact c s v hs hv
  · exact b s k v hs (by omega) hv
/-- the first pass -/
def gi (M : zMa) (t : Nat) (S : zGu) : Prop := (∀ s, s < t → (S.1 s = some 0 ∧ stEnd M (seAt (sMake M) s) = some (S.2.1 s)) ∨ (S.1 s = none ∧ stEnd M (seAt (sMake M) s) = none)) ∧ S.2.2 = cntP t (fun s => (S.1 s).isSome)
theorem guI_ok {t : Nat} {S : zGu} (h1 : gi M t S) : gi M (t + 1) (guI M (sMake M) S t) := by
  obtain ⟨a, d⟩ := h1
  unfold guI
  cases e : stEnd M (seAt (sMake M) t) with
  | some v =>
    dsimp only
    refine ⟨fun s hs => ?_, ?_⟩
    · dsimp only
      by_cases q : s = t
      · subst q
        rw [up_at, up_at]
        exact Or.inl ⟨rfl, e⟩
      · rw [va_up_ne _ _ q, va_up_ne _ _ q]
        exact a s (by omega)
    · dsimp only
      rw [cntP_succ, up_at, d]
      simp only [Option.isSome_some, if_true]
      congr 1
      unfold cntP
      refine congrArg List.length (List.filter_congr fun x hx => ?_)
      have := List.mem_range.mp hx
      rw [va_up_ne _ _ (by omega)]
  | none =>
    dsimp only
    refine ⟨fun s hs => ?_, ?_⟩
    · dsimp only
      by_cases q : s = t
      · subst q
        rw [up_at]
        exact Or.inr ⟨rfl, e⟩
      · rw [va_up_ne _ _ q]
        exact a s (by omega)
    · dsimp only
      rw [cntP_succ, up_at, d]
      simp only [Option.isSome_none, Bool.false_eq_true, if_false, Nat.add_zero]
      unfold cntP
      refine congrArg List.length (List.filter_congr fun x hx => ?_)
      have := List.mem_range.mp hx
      rw [va_up_ne _ _ (by omega)]
theorem gi_ok {S : zGu} (h1 : gi M (sMake M).1.length S) : guOk M 1 0 S := by
  obtain ⟨a, d⟩ := h1
  refine ⟨fun s k hs hk => ?_, fun s k v hs hk hv => ?_, fun s v hs _ => absurd hs (Nat.not_lt_zero _), d⟩
  · rcases a s hs with ⟨a1, a2⟩ | ⟨a1, a2⟩
    · rw [a1] at hk
      cases hk
      exact ⟨by omega, a2⟩
    · rw [a1] at hk; cases hk
  · have : k = 0 := by omega
    subst this
    rcases a s hs with ⟨a1, a2⟩ | ⟨a1, a2⟩
    · exact ⟨0, Nat.le_refl _, a1⟩
    · have hv : stEnd M (seAt (sMake M) s) = some v := hv
      rw [a2] at hv; cases hv
/-- one thing of each set -/
def guD (M : zMa) (C : Nat → zWo) : Prop := ∀ s, s < (sMake M).1.length → ∃ k, k ≤ 6 ∧ lgW M (sMake M) k s (C s)
theorem guL_ok (h : sGood M) : ∀ (f r : Nat) (S : zGu), guOk M (r + 1) 0 S → (sMake M).1.length < f + r + 1 → guD M (guL (sMake M) (sMake M).1.length f (r + 1) S).2.1
  | 0, r, S, h1, hf => by
    intro s hs
    obtain ⟨a, b, c, d⟩ := h1
    obtain ⟨k, v, hk, hv⟩ := lg_few h hs
    obtain ⟨k', k1, k2⟩ := b s k v hs (by omega) hv
    obtain ⟨k6, v6, hk6, hv6⟩ := lg_some h hs
    refine ⟨k', ?_, (a s k' hs k2).2⟩
    rcases Nat.lt_or_ge k6 (r + 1) with q | q
    · obtain ⟨k3, k4, k5⟩ := b s k6 v6 hs q hv6
      rw [k2] at k5
      cases k5
      omega
    · omega
  | f + 1, r, S, h1, hf => by
    unfold guL
    by_cases c : r + 1 ≤ (sMake M).1.length ∧ S.2.2 < (sMake M).1.length
    · rw [if_pos c]
      exact guL_ok h f (r + 1) _ (guR_ok h h1) (by omega)
    · rw [if_neg c]
      intro s hs
      obtain ⟨a, b, _, d⟩ := h1
      have ex : ∃ k, S.1 s = some k := by
        by_cases q : r + 1 ≤ (sMake M).1.length
        · have hfull : (sMake M).1.length ≤ cntP (sMake M).1.length (fun s => (S.1 s).isSome) := by
            rw [← d]
            omega
          have := cntP_full hfull s hs
          exact Option.isSome_iff_exists.mp this
        · obtain ⟨k, v, hk, hv⟩ := lg_few h hs
          obtain ⟨k', _, k2⟩ := b s k v hs (by omega) hv
          exact ⟨k', k2⟩
      obtain ⟨k', k2⟩ := ex
      obtain ⟨k6, v6, hk6, hv6⟩ := lg_some h hs
      have hk' := a s k' hs k2
      refine ⟨k', ?_, hk'.2⟩
      rcases Nat.lt_or_ge k6 (r + 1) with q | q
      · obtain ⟨k3, k4, k5⟩ := b s k6 v6 hs q hv6
        rw [k2] at k5
        cases k5
        omega
      · omega
/-- as far as what begins all may reach -/
def cmJ (X : zSs) (C : Nat → zWo) (s n j : Nat) : Nat := match goAt X (3 * s + j) with
  | some (o, g) => min n (lcp (C s) (o ++ C g))
  | none => n
def cm0 (M : zMa) (X : zSs) (C : Nat → zWo) (s : Nat) : Nat := match stEnd M (seAt X s) with
  | some v => min (C s).length (lcp (C s) v)
  | none => (C s).length
def cmn (M : zMa) (X : zSs) (C : Nat → zWo) (s : Nat) : Nat := cmJ X C s (cmJ X C s (cmJ X C s (cm0 M X C s) 0) 1) 2
def shF (M : zMa) (X : zSs) (S : (Nat → zWo) × Bool) (s : Nat) : (Nat → zWo) × Bool := if cmn M X S.1 s < (S.1 s).length then (va_up S.1 s ((S.1 s).take (cmn M X S.1 s)), true) else S
def shR (M : zMa) (X : zSs) (n : Nat) (C : Nat → zWo) : (Nat → zWo) × Bool := (List.range n).foldl (shF M X) (C, false)
def shL (M : zMa) (X : zSs) (n : Nat) : Nat → (Nat → zWo) → Nat → zWo
  | 0, C => C
  | f + 1, C => if (shR M X n C).2 = true then shL M X n f (shR M X n C).1 else (shR M X n C).1
theorem cmJ_le (X : zSs) (C : Nat → zWo) (s n j : Nat) : cmJ X C s n j ≤ n := by unfold cmJ; split <;> omega
theorem cmJ_go {X : zSs} {C : Nat → zWo} {s n j g : Nat} {o : zWo} (e : goAt X (3 * s + j) = some (o, g)) : cmJ X C s n j ≤ lcp (C s) (o ++ C g) := by unfold cmJ; rw [e]; exact Nat.min_le_right _ _
theorem cm0_le (M : zMa) (X : zSs) (C : Nat → zWo) (s : Nat) : cm0 M X C s ≤ (C s).length := by unfold cm0; split <;> omega
theorem cmn_le (M : zMa) (X : zSs) (C : Nat → zWo) (s : Nat) : cmn M X C s ≤ (C s).length := by
  unfold cmn
  have a := cmJ_le X C s (cmJ X C s (cmJ X C s (cm0 M X C s) 0) 1) 2
  have b := cmJ_le X C s (cmJ X C s (cm0 M X C s) 0) 1
  have c := cmJ_le X C s (cm0 M X C s) 0
  have d := cm0_le M X C s
  omega
theorem cmn_go {M : zMa} {X : zSs} {C : Nat → zWo} {s j g : Nat} {o : zWo} (hj : j < 3) (e : goAt X (3 * s + j) = some (o, g)) : cmn M X C s ≤ lcp (C s) (o ++ C g) := by
  unfold cmn
  have a := cmJ_le X C s (cmJ X C s (cmJ X C s (cm0 M X C s) 0) 1) 2
  have b := cmJ_le X C s (cmJ X C s (cm0 M X C s) 0) 1
  rcases (show j = 0 ∨ j = 1 ∨ j = 2 by omega) with rfl | rfl | rfl
  · have := cmJ_go (C := C) (n := cm0 M X C s) e
    omega
  · have := cmJ_go (C := C) (n := cmJ X C s (cm0 M X C s) 0) e
    omega
  · exact cmJ_go e
theorem cmn_end {M : zMa} {X : zSs} {C : Nat → zWo} {s : Nat} {v : zWo} (e : stEnd M (seAt X s) = some v) : cmn M X C s ≤ lcp (C s) v := by
  unfold cmn
  have a := cmJ_le X C s (cmJ X C s (cmJ X C s (cm0 M X C s) 0) 1) 2
  have b := cmJ_le X C s (cmJ X C s (cm0 M X C s) 0) 1
  have c := cmJ_le X C s (cm0 M X C s) 0
  have d : cm0 M X C s ≤ lcp (C s) v := by unfold cm0; rw [e]; exact Nat.min_le_right _ _
  omega
/-- what begins all isn't cut off -/
def geA (M : zMa) (C : Nat → zWo) : Prop := ∀ s, s < (sMake M).1.length → ∀ P, cmB M s P → P <+: C s
theorem cmn_ge (h : sGood M) {C : Nat → zWo} (hC : geA M C) {s : Nat} (hs : s < (sMake M).1.length) {P : zWo} (hP : cmB M s P) : P.length ≤ cmn M (sMake M) C s := by
  have hp := hC s hs P hP
  have h0 : P.length ≤ cm0 M (sMake M) C s := by
    unfold cm0
    split
    · rename_i v e
      have := pre_lcp hp (hP 0 v e)
      have := hp.length_le
      omega
    · exact hp.length_le
  have hJ : ∀ n j, j < 3 → P.length ≤ n → P.length ≤ cmJ (sMake M) C s n j := by
    intro n j hj hn
    unfold cmJ
    split
    · rename_i o g e
      have := pre_lcp hp (pre_go h hP hj e (hC g (h.go_lt e hj).2))
      omega
    · exact hn
  exact hJ _ 2 (by decide) (hJ _ 1 (by decide) (hJ _ 0 (by decide) h0))
theorem guD_ge {C : Nat → zWo} (hC : guD M C) : geA M C := fun s hs P hP => by
  obtain ⟨k, _, hk⟩ := hC s hs
  exact hP k _ hk
def totL : Nat → (Nat → zWo) → Nat
  | 0, _ => 0
  | n + 1, C => totL n C + (C n).length
theorem totL_same : ∀ (n : Nat) {C D : Nat → zWo}, (∀ s, s < n → (C s).length = (D s).length) → totL n C = totL n D
  | 0, _, _, _ => rfl
  | n + 1, C, D, h => by rw [totL, totL, totL_same n (fun s hs => h s (by omega)), h n (by omega)]
theorem totL_up : ∀ (n : Nat) {C : Nat → zWo} {t : Nat} {w : zWo}, t < n → w.length < (C t).length → totL n (va_up C t w) < totL n C
  | 0, _, _, _, h, _ => absurd h (Nat.not_lt_zero _)
  | n + 1, C, t, w, h, hw => by
    rw [totL, totL]
    by_cases c : t = n
    · subst c
      rw [up_at, totL_same t (C := va_up C t w) (D := C) (fun s hs => by rw [va_up_ne _ _ (by omega)])]
      omega
    · have := totL_up n (C := C) (t := t) (w := w) (by omega) hw
      rw [va_up_ne _ _ (by omega)]
      omega
theorem totL_le : ∀ (n b : Nat) {C : Nat → zWo}, (∀ s, s < n → (C s).length ≤ b) → totL n C ≤ n * b
  | 0, b, C, _ => by simp [totL]
  | n + 1, b, C, h => by
    have := totL_le n b (C := C) (fun s hs => h s (by omega))
    have := h n (by omega)
    rw [totL, Nat.succ_mul]
    omega
/-- words of the letters 1 to 9, not too long -/
def cLen (M : zMa) (C : Nat → zWo) : Prop := ∀ s, s < (sMake M).1.length → (C s).length ≤ 129 ∧ LOk (C s)
theorem guD_len (h : sGood M) {C : Nat → zWo} (hC : guD M C) : cLen M C := fun s hs => by
  obtain ⟨k, k6, hk⟩ := hC s hs
  have := lg_len2 h hk
  exact ⟨by omega, this.2⟩
theorem shF_ok (h : sGood M) {S : (Nat → zWo) × Bool} {s : Nat} (hs : s < (sMake M).1.length) (h1 : geA M S.1 ∧ cLen M S.1) : geA M (shF M (sMake M) S s).1 ∧ cLen M (shF M (sMake M) S s).1 := by
  unfold shF
  split
  · refine ⟨fun t ht P hP => ?_, fun t ht => ?_⟩
    · dsimp only
      by_cases q : t = s
      · subst q
        rw [up_at]
        exact pre_take (h1.1 t ht P hP) (cmn_ge h h1.1 ht hP)
      · rw [va_up_ne _ _ q]
        exact h1.1 t ht P hP
    · dsimp only
      by_cases q : t = s
      · subst q
        rw [up_at]
        have := h1.2 t ht
        exact ⟨by rw [List.length_take]; omega, this.2.take _⟩
      · rw [va_up_ne _ _ q]
        exact h1.2 t ht
  · exact h1
theorem shR_ok (h : sGood M) {C : Nat → zWo} (h1 : geA M C ∧ cLen M C) : (geA M (shR M (sMake M) (sMake M).1.length C).1 ∧ cLen M (shR M (sMake M) (sMake M).1.length C).1) ∧
    ((shR M (sMake M) (sMake M).1.length C).2 = true → totL (sMake M).1.length (shR M (sMake M) (sMake M).1.length C).1 < totL (sMake M).1.length C) ∧
    ((shR M (sMake M) (sMake M).1.length C).2 = false → (shR M (sMake M) (sMake M).1.length C).1 = C ∧ ∀ s, s < (sMake M).1.length → (C s).length ≤ cmn M (sMake M) C s) := by
  have := fold_range (P := fun t (S : (Nat → zWo) × Bool) => (geA M S.1 ∧ cLen M S.1) ∧ totL (sMake M).1.length S.1 ≤ totL (sMake M).1.length C ∧ (S.2 = true → totL (sMake M).1.length S.1 < totL (sMake M).1.length C) ∧ (S.2 = false → S.1 = C ∧ ∀ s, s < t → (C s).length ≤ cmn M (sMake M) C s)) (f := shF M (sMake M)) (n := (sMake M).1.length) (fun t S ht hS => by
    obtain ⟨a, b, c, d⟩ := hS
    refine ⟨shF_ok h ht a, ?_⟩
    unfold shF
    by_cases q : cmn M (sMake M) S.1 t < (S.1 t).length
    · rw [if_pos q]
      have := totL_up (sMake M).1.length (C := S.1) (t := t) (w := (S.1 t).take (cmn M (sMake M) S.1 t)) ht (by rw [List.length_take]; omega)
      exact ⟨by dsimp only; omega, fun _ => by dsimp only; omega, fun z => by cases z⟩
    · rw [if_neg q]
      refine ⟨b, c, fun z => ⟨(d z).1, fun s hs => ?_⟩⟩
      obtain ⟨d1, d2⟩ := d z
      by_cases e : s = t
      · subst e
        rw [d1] at q
        omega
      · exact d2 s (by omega)) (C, false) ⟨h1, Nat.le_refl _, fun z => (by cases z), fun _ => ⟨rfl, fun s hs => absurd hs (Nat.not_lt_zero _)⟩⟩
  exact ⟨this.1, this.2.2⟩
/-- till nothing changes: the longest beginnings -/
theorem shL_ok (h : sGood M) : ∀ (f : Nat) (C : Nat → zWo), geA M C ∧ cLen M C → totL (sMake M).1.length C < f → (∀ s, s < (sMake M).1.length → isHd M s (shL M (sMake M) (sMake M).1.length f C s)) ∧ cLen M (shL M (sMake M) (sMake M).1.length f C)
  | 0, C, _, hf => absurd hf (Nat.not_lt_zero _)
  | f + 1, C, h1, hf => by
    obtain ⟨a, b, c⟩ := shR_ok h h1
    unfold shL
    by_cases q : (shR M (sMake M) (sMake M).1.length C).2 = true
    · rw [if_pos q]
      exact shL_ok h f _ a (by have := b q; omega)
    · rw [if_neg q]
      obtain ⟨c1, c2⟩ := c (by simpa using q)
      rw [c1]
      refine ⟨hd_fix rfl h h1.1 (fun s hs => ⟨fun v hv => ?_, fun j hj o g e => ?_⟩), h1.2⟩
      · have := c2 s hs
        have := cmn_end (C := C) hv
        exact lcp_pfx (Nat.le_antisymm (lcp_le _ _).1 (by omega))
      · have := c2 s hs
        have := cmn_go (M := M) (C := C) hj e
        exact lcp_pfx (Nat.le_antisymm (lcp_le _ _).1 (by omega))
end GU
