/-! Twins: pairs of useful states with their delays, level by level. -/
abbrev zTs : Type := List zCf × Bool
def twAdd (lim : Nat) (c : zCf) (S : zTs) : zTs := (if S.1.length ≤ 1000 ∧ c ∉ S.1 then S.1 ++ [c] else S.1, S.2 || decide (lim < c.2.1.length ∨ lim < c.2.2.length))
def twC (c : zCf) (a b : zArc) : zCf := ((a.2.2.1, b.2.2.1), dlyD (c.2.1 ++ dgs a.2.2.2) (c.2.2 ++ dgs b.2.2.2))
def twArc2 (M : zMa) (lim : Nat) (c : zCf) (a : zArc) (S : zTs) (b : zArc) : zTs := if b.1 = c.1.2 ∧ b.2.1 = a.2.1 ∧ isU M b.2.2.1 = true then twAdd lim (twC c a b) S else S
def twArc (M : zMa) (lim : Nat) (c : zCf) (S : zTs) (a : zArc) : zTs := if a.1 = c.1.1 ∧ isU M a.2.2.1 = true then M.2.2.2.foldl (twArc2 M lim c a) S else S
def twCf (M : zMa) (lim : Nat) (S : zTs) (c : zCf) : zTs := M.2.2.2.foldl (twArc M lim c) S
def twLv (M : zMa) (lim start : Nat) (S : zTs) : zTs := (S.1.drop start).foldl (twCf M lim) S
def twRun (M : zMa) (lim : Nat) : Nat → Nat → Nat → zTs → Nat × Nat × zTs
  | 0, _, lv, S => (1, lv, S)
  | f + 1, start, lv, S => if start < S.1.length then (if S.2 = true then (0, lv + 1, S) else if 1000 < S.1.length then (2, lv + 1, S) else twRun M lim f S.1.length (lv + 1) (twLv M lim start S)) else (1, lv, S)
def begU (M : zMa) : List Nat := (List.range M.1).filter fun q => M.2.1.testBit q && isU M q
def iniU (M : zMa) : List zCf := (begU M).flatMap fun p => (begU M).map fun q => ((p, q), [], [])
def twIni (M : zMa) (lim : Nat) : zTs := (iniU M).foldl (fun S c => twAdd lim c S) ([], false)
def longF (M : zMa) (s : Nat) (a : zArc) : Nat := if isU M a.1 = true ∧ isU M a.2.2.1 = true then max s (dgs a.2.2.2).length else s
def longA (M : zMa) : Nat := M.2.2.2.foldl (longF M) 0
def twLim (M : zMa) : Nat := longA M * pcB (useB M) * pcB (useB M)
/-- answer, levels, pairs -/
def twJ (M : zMa) : Nat × Nat × zTs := twRun M (twLim M) 1002 0 0 (twIni M (twLim M))
theorem twAdd_pre (lim : Nat) (c : zCf) (S : zTs) : ∃ t, (twAdd lim c S).1 = S.1 ++ t := by
  unfold twAdd
  dsimp only
  split
  · exact ⟨_, rfl⟩
  · exact ⟨[], by simp⟩
theorem fold_pre1 {α : Type} {f : zTs → α → zTs} (hf : ∀ S x, ∃ t, (f S x).1 = S.1 ++ t) : ∀ (l : List α) (S : zTs), ∃ t, (l.foldl f S).1 = S.1 ++ t
  | [], S => ⟨[], by simp⟩
  | x :: l, S => by
    obtain ⟨t, e⟩ := hf S x
    obtain ⟨t2, e2⟩ := fold_pre1 hf l (f S x)
    exact ⟨t ++ t2, by rw [List.foldl_cons, e2, e, List.append_assoc]⟩
theorem twArc2_pre (M : zMa) (lim : Nat) (c : zCf) (a : zArc) (S : zTs) (b : zArc) : ∃ t, (twArc2 M lim c a S b).1 = S.1 ++ t := by
  unfold twArc2
  split
  · exact twAdd_pre _ _ _
  · exact ⟨[], by simp⟩
theorem twArc_pre (M : zMa) (lim : Nat) (c : zCf) (S : zTs) (a : zArc) : ∃ t, (twArc M lim c S a).1 = S.1 ++ t := by
  unfold twArc
  split
  · exact fold_pre1 (twArc2_pre M lim c a) _ _
  · exact ⟨[], by simp⟩
theorem twCf_pre (M : zMa) (lim : Nat) (S : zTs) (c : zCf) : ∃ t, (twCf M lim S c).1 = S.1 ++ t := fold_pre1 (twArc_pre M lim c) _ _
theorem twLv_pre (M : zMa) (lim start : Nat) (S : zTs) : ∃ t, (twLv M lim start S).1 = S.1 ++ t := fold_pre1 (twCf_pre M lim) _ _
/-- all states are the machine's; no common beginning; not more than 1001; each once; too long ones are told -/
def twOk (M : zMa) (lim : Nat) (S : zTs) : Prop := (∀ c ∈ S.1, c.1.1 < M.1 ∧ c.1.2 < M.1 ∧ isU M c.1.1 = true ∧ isU M c.1.2 = true ∧ LOk c.2.1 ∧ LOk c.2.2) ∧ S.1.length ≤ 1001 ∧ (S.2 = false → ∀ c ∈ S.1, c.2.1.length ≤ lim ∧ c.2.2.length ≤ lim)
theorem twAdd_ok {M : zMa} {lim : Nat} {c : zCf} {S : zTs} (h : twOk M lim S) (hc : c.1.1 < M.1 ∧ c.1.2 < M.1 ∧ isU M c.1.1 = true ∧ isU M c.1.2 = true ∧ LOk c.2.1 ∧ LOk c.2.2) : twOk M lim (twAdd lim c S) := by
  obtain ⟨h1, h2, h3⟩ := h
  unfold twAdd
  by_cases q : S.1.length ≤ 1000 ∧ c ∉ S.1
  · rw [if_pos q]
    refine ⟨fun k hk => ?_, by simp; omega, fun hs k hk => ?_⟩
    · rcases List.mem_append.mp hk with z | z
      · exact h1 k z
      · rw [List.mem_singleton.mp z]; exact hc
    · obtain ⟨s1, s2⟩ := Bool.or_eq_false_iff.mp hs
      rcases List.mem_append.mp hk with z | z
      · exact h3 s1 k z
      · rw [List.mem_singleton.mp z]
        have := of_decide_eq_false s2
        omega
  · rw [if_neg q]
    exact ⟨h1, h2, fun hs => h3 (Bool.or_eq_false_iff.mp hs).1⟩
theorem dlyD_ok {u v : zWo} (hu : LOk u) (hv : LOk v) : LOk (dlyD u v).1 ∧ LOk (dlyD u v).2 := ⟨hu.drop _, hv.drop _⟩
theorem MaOk.wLOk {M : zMa} (k : MaOk M) {a : zArc} (ha : a ∈ M.2.2.2) : LOk (dgs a.2.2.2) := (k.2.2.2.2 a ha).2.2.2.dig
theorem twCf_ok {M : zMa} (k : MaOk M) {lim : Nat} {c : zCf} {S : zTs} (h : twOk M lim S) (hc : LOk c.2.1 ∧ LOk c.2.2) : twOk M lim (twCf M lim S c) :=
  foldl_inv (P := twOk M lim) (fun S a ha h => by
    unfold twArc
    split
    · rename_i q
      exact foldl_inv (P := twOk M lim) (fun S b hb h => by
        unfold twArc2
        split
        · rename_i r
          have ka := k.2.2.2.2 a ha
          have kb := k.2.2.2.2 b hb
          have := dlyD_ok (hc.1.app (k.wLOk ha)) (hc.2.app (k.wLOk hb))
          exact twAdd_ok h ⟨ka.2.2.1, kb.2.2.1, q.2, r.2.2, this.1, this.2⟩
        · exact h) h
    · exact h) h
theorem twLv_ok {M : zMa} (k : MaOk M) {lim start : Nat} {S : zTs} (h : twOk M lim S) : twOk M lim (twLv M lim start S) := by
  have : ∀ c ∈ S.1.drop start, LOk c.2.1 ∧ LOk c.2.2 := fun c hc => (h.1 c (List.mem_of_mem_drop hc)).2.2.2.2
  exact foldl_inv (P := twOk M lim) (fun S c hc h => twCf_ok k h (this c hc)) h
theorem mem_begU {M : zMa} {q : Nat} : q ∈ begU M ↔ q < M.1 ∧ M.2.1.testBit q = true ∧ isU M q = true := by unfold begU; rw [List.mem_filter, List.mem_range, Bool.and_eq_true]
theorem mem_iniU {M : zMa} {c : zCf} : c ∈ iniU M ↔ c.1.1 ∈ begU M ∧ c.1.2 ∈ begU M ∧ c.2 = ([], []) := by
  unfold iniU
  rw [List.mem_flatMap]
  constructor
  · rintro ⟨p, hp, h⟩
    obtain ⟨q, hq, rfl⟩ := List.mem_map.mp h
    exact ⟨hp, hq, rfl⟩
  · rintro ⟨h1, h2, h3⟩
    exact ⟨c.1.1, h1, List.mem_map.mpr ⟨c.1.2, h2, by rw [← h3]⟩⟩
theorem twIni_ok {M : zMa} {lim : Nat} : twOk M lim (twIni M lim) := foldl_inv (P := twOk M lim) (fun S c hc h => by
  obtain ⟨h1, h2, h3⟩ := mem_iniU.mp hc
  have a := mem_begU.mp h1
  have b := mem_begU.mp h2
  exact twAdd_ok h ⟨a.1, b.1, a.2.2, b.2.2, by rw [h3]; exact LOk.nil, by rw [h3]; exact LOk.nil⟩) ⟨fun c hc => (by cases hc), Nat.zero_le _, fun _ c hc => (by cases hc)⟩
theorem twAdd_mem {lim : Nat} {c : zCf} {S : zTs} (h : (twAdd lim c S).1.length ≤ 1000) : c ∈ (twAdd lim c S).1 := by
  unfold twAdd at *
  dsimp only at *
  split
  · exact List.mem_append_right _ List.mem_cons_self
  · rename_i q
    rw [if_neg q] at h
    refine Classical.byContradiction fun z => q ⟨h, z⟩
/-- if all that comes finds room, what is put in is there at the end -/
theorem fold_room {α : Type} {f : zTs → α → zTs} (hf : ∀ S x, ∃ t, (f S x).1 = S.1 ++ t) {c : zCf} {x : α} : ∀ (l : List α) (S : zTs), x ∈ l → (∀ S, (f S x).1.length ≤ 1000 → c ∈ (f S x).1) → (l.foldl f S).1.length ≤ 1000 → c ∈ (l.foldl f S).1
  | [], S, h, _, _ => by cases h
  | y :: l, S, h, hs, hl => by
    rw [List.foldl_cons] at hl ⊢
    rcases List.mem_cons.mp h with e | e
    · subst e
      obtain ⟨t, et⟩ := fold_pre1 hf l (f S x)
      rw [et] at hl ⊢
      rw [List.length_append] at hl
      exact List.mem_append_left _ (hs S (by omega))
    · exact fold_room hf l _ e hs hl
theorem twCf_mem {M : zMa} {lim : Nat} {c : zCf} {a b : zArc} (ha : a ∈ M.2.2.2) (hb : b ∈ M.2.2.2) (h1 : a.1 = c.1.1 ∧ isU M a.2.2.1 = true) (h2 : b.1 = c.1.2 ∧ b.2.1 = a.2.1 ∧ isU M b.2.2.1 = true) (S : zTs) (hl : (twCf M lim S c).1.length ≤ 1000) : twC c a b ∈ (twCf M lim S c).1 := by
  refine fold_room (twArc_pre M lim c) _ _ ha (fun S hS => ?_) hl
  unfold twArc at *
  rw [if_pos h1] at *
  refine fold_room (twArc2_pre M lim c a) _ _ hb (fun S hS => ?_) hS
  unfold twArc2 at *
  rw [if_pos h2] at *
  exact twAdd_mem hS
/-- what follows is there too -/
def twCl (M : zMa) (K T : List zCf) : Prop := ∀ c ∈ K, ∀ a ∈ M.2.2.2, ∀ b ∈ M.2.2.2, a.1 = c.1.1 → isU M a.2.2.1 = true → b.1 = c.1.2 → b.2.1 = a.2.1 → isU M b.2.2.1 = true → twC c a b ∈ T
theorem twLv_mem {M : zMa} {lim start : Nat} {S : zTs} (h : (twLv M lim start S).1.length ≤ 1000) : twCl M (S.1.drop start) (twLv M lim start S).1 := by
  intro c hc a ha b hb h1 h2 h3 h4 h5
  exact fold_room (twCf_pre M lim) _ _ hc (fun S hS => twCf_mem ha hb ⟨h1, h2⟩ ⟨h3, h4, h5⟩ S hS) h
theorem twRun_end {M : zMa} (k : MaOk M) {lim : Nat} : ∀ (f start lv : Nat) (S : zTs), twOk M lim S → start ≤ S.1.length ∧ start ≤ 1000 → 1001 < f + start → (∀ c ∈ S.1.take start, c.2.1.length ≤ lim ∧ c.2.2.length ≤ lim) → (S.1.length ≤ 1000 → twCl M (S.1.take start) S.1) → (twRun M lim f start lv S).1 = 1 →
    (∃ t, (twRun M lim f start lv S).2.2.1 = S.1 ++ t) ∧ (∀ c ∈ (twRun M lim f start lv S).2.2.1, c.2.1.length ≤ lim ∧ c.2.2.length ≤ lim) ∧ twCl M (twRun M lim f start lv S).2.2.1 (twRun M lim f start lv S).2.2.1 ∧ (twRun M lim f start lv S).2.2.1.length ≤ 1000
  | 0, start, lv, S, ok, hs, hf, _, _, _ => by omega
  | f + 1, start, lv, S, ok, hs, hf, hb, hc, h1 => by
    unfold twRun at *
    by_cases c : start < S.1.length
    · rw [if_pos c] at *
      by_cases c2 : S.2 = true
      · rw [if_pos c2] at h1; cases h1
      · rw [if_neg c2] at *
        by_cases c3 : 1000 < S.1.length
        · rw [if_pos c3] at h1; cases h1
        · rw [if_neg c3] at *
          obtain ⟨t, et⟩ := twLv_pre M lim start S
          have etk : (twLv M lim start S).1.take S.1.length = S.1 := by rw [et, List.take_left]
          have := twRun_end k f S.1.length (lv + 1) (twLv M lim start S) (twLv_ok k ok) ⟨by rw [et, List.length_append]; omega, by omega⟩ (by omega) (by
            rw [etk]
            exact ok.2.2 (by simpa using c2)) (fun hl => by
            rw [etk]
            intro x hx
            have hx2 : x ∈ S.1.take start ∨ x ∈ S.1.drop start := by
              rw [← List.mem_append, List.take_append_drop]; exact hx
            rcases hx2 with q | q
            · intro a ha b hb g1 g2 g3 g4 g5
              rw [et]
              exact List.mem_append_left _ (hc (by omega) x q a ha b hb g1 g2 g3 g4 g5)
            · exact twLv_mem hl x q) h1
          obtain ⟨⟨t2, e2⟩, r⟩ := this
          exact ⟨⟨t ++ t2, by rw [e2, et, List.append_assoc]⟩, r⟩
    · rw [if_neg c] at *
      have hl : (S.1.take start) = S.1 := List.take_of_length_le (by omega)
      rw [hl] at hb hc
      have h1000 : S.1.length ≤ 1000 := by omega
      exact ⟨⟨[], by simp⟩, hb, hc h1000, h1000⟩
