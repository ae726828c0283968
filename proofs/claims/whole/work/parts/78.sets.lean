/-! Sets: the ways through useful states that they stand for, and how long what is left may be. -/
def upS (M : zMa) : List Nat → Nat → zWo → Prop
  | [], q, x => q ∈ begU M ∧ x = []
  | l :: w, q, x => ∃ a ∈ M.2.2.2, a.2.2.1 = q ∧ a.2.1 = l ∧ isU M q = true ∧ ∃ x', upS M w a.1 x' ∧ x = x' ++ dgs a.2.2.2
theorem upS_use {M : zMa} : ∀ {w : List Nat} {q : Nat} {x : zWo}, upS M w q x → isU M q = true
  | [], q, x, h => (mem_begU.mp h.1).2.2
  | l :: w, q, x, ⟨a, _, _, _, h, _⟩ => h
theorem upS_way {M : zMa} : ∀ {w v : List Nat} {q : Nat} {x y : zWo}, upS M w q x → wayO M v q y → ∃ p ∈ begs M, wayO M (w.reverse ++ v) p (x ++ y)
  | [], v, q, x, y, h, hy => ⟨q, mem_begs.mpr ⟨(mem_begU.mp h.1).1, (mem_begU.mp h.1).2.1⟩, by rw [h.2]; exact hy⟩
  | l :: w, v, q, x, y, ⟨a, ha, a1, a2, _, x', hx', e⟩, hy => by
    obtain ⟨p, hp, h⟩ := upS_way (v := l :: v) (y := dgs a.2.2.2 ++ y) hx' ⟨a, ha, rfl, a2, y, by rw [a1]; exact hy, rfl⟩
    refine ⟨p, hp, ?_⟩
    rw [List.reverse_cons, List.append_assoc, e, List.append_assoc]
    exact h
theorem upS_len {M : zMa} (k : MaOk M) : ∀ {w : List Nat} {q : Nat} {x : zWo}, upS M w q x → x.length ≤ 3 * w.length ∧ LOk x
  | [], q, x, h => by rw [h.2]; exact ⟨Nat.zero_le _, LOk.nil⟩
  | l :: w, q, x, ⟨a, ha, a1, a2, _, x', hx', e⟩ => by
    have := upS_len k hx'
    have h3 := (k.2.2.2.2 a ha).2.2.2.len
    rw [e, List.length_append, List.length_cons]
    exact ⟨by omega, this.2.app (k.wLOk ha)⟩
/-- one output a way, if the machine is functional -/
theorem upS_one {M : zMa} (k : MaOk M) (hf : difW FT M M = none) {w : List Nat} {q : Nat} {x x' : zWo} (h : upS M w q x) (h' : upS M w q x') : x = x' := by
  obtain ⟨v, y, _, hy⟩ := isU_out k (upS_use h)
  obtain ⟨p, hp, e⟩ := upS_way h hy
  obtain ⟨p', hp', e'⟩ := upS_way h' hy
  exact List.append_cancel_right (functional_of k hf hp hp' e e')
theorem upS_end {M : zMa} (k : MaOk M) (hf : difW FT M M = none) {w : List Nat} {q q' e e' : Nat} {x x' : zWo} (h : upS M w q x) (h' : upS M w q' x') (he : M.2.2.1 q = some e) (he' : M.2.2.1 q' = some e') : x ++ dgs e = x' ++ dgs e' := by
  obtain ⟨p, hp, z⟩ := upS_way (v := []) h ⟨e, he, rfl⟩
  obtain ⟨p', hp', z'⟩ := upS_way (v := []) h' ⟨e', he', rfl⟩
  exact functional_of k hf hp hp' z z'
theorem lcp_pre : ∀ P u v : zWo, lcp (P ++ u) (P ++ v) = P.length + lcp u v
  | [], u, v => by simp
  | x :: P, u, v => by
    rw [List.cons_append, List.cons_append, lcp, if_pos rfl, lcp_pre P u v, List.length_cons]
    omega
theorem dly_app (P u v : zWo) : dlyD (P ++ u) (P ++ v) = dlyD u v := by
  unfold dlyD
  rw [lcp_pre]
  simp [List.drop_append]
theorem twLim_le {M : zMa} (k : MaOk M) : twLim M ≤ 108 := by
  have h1 : longA M ≤ 3 := foldl_inv (P := fun n => n ≤ 3) (fun n a ha h => by
    have := (k.2.2.2.2 a ha).2.2.2.len
    unfold longF
    split <;> omega) (Nat.zero_le _)
  have h2 : pcB (useB M) ≤ 6 := by
    unfold pcB
    have := List.length_filter_le (fun q => (useB M).testBit q) (List.range 6)
    simpa using this
  unfold twLim
  exact Nat.mul_le_mul (Nat.mul_le_mul h1 h2) h2
section TWA
variable {M : zMa}
theorem twJ_end (k : MaOk M) (h : (twJ M).1 = 1) : (∃ t, (twJ M).2.2.1 = (twIni M (twLim M)).1 ++ t) ∧ (∀ c ∈ (twJ M).2.2.1, c.2.1.length ≤ twLim M ∧ c.2.2.length ≤ twLim M) ∧ twCl M (twJ M).2.2.1 (twJ M).2.2.1 ∧ (twJ M).2.2.1.length ≤ 1000 :=
  twRun_end k 1002 0 0 _ twIni_ok ⟨Nat.zero_le _, Nat.zero_le _⟩ (by decide) (fun c hc => by simp at hc) (fun _ c hc => by simp at hc) h
theorem twins_all (k : MaOk M) (h : (twJ M).1 = 1) : ∀ (w : List Nat) (q q' : Nat) (x x' : zWo), upS M w q x → upS M w q' x' → ((q, q'), dlyD x x') ∈ (twJ M).2.2.1
  | [], q, q', x, x', ⟨h1, e1⟩, ⟨h2, e2⟩ => by
    obtain ⟨⟨t, et⟩, _, _, hl⟩ := twJ_end k h
    rw [et] at hl ⊢
    rw [List.length_append] at hl
    refine List.mem_append_left _ ?_
    rw [e1, e2]
    exact fold_room (fun S c => twAdd_pre _ c S) (c := ((q, q'), [], [])) (x := ((q, q'), [], [])) (iniU M) _ (mem_iniU.mpr ⟨h1, h2, rfl⟩) (fun S hS => twAdd_mem hS) (by
      have : (twIni M (twLim M)).1.length ≤ 1000 := by omega
      exact this)
  | l :: w, q, q', x, x', ⟨a, ha, a1, a2, a3, x1, hx1, e1⟩, ⟨b, hb, b1, b2, b3, x2, hx2, e2⟩ => by
    have ih := twins_all k h w a.1 b.1 x1 x2 hx1 hx2
    obtain ⟨_, _, hc, _⟩ := twJ_end k h
    have := hc _ ih a ha b hb rfl (by rw [a1]; exact a3) rfl (by rw [a2, b2]) (by rw [b1]; exact b3)
    unfold twC at this
    obtain ⟨P, p1, p2⟩ := lcp_split x1 x2
    have e : dlyD ((dlyD x1 x2).1 ++ dgs a.2.2.2) ((dlyD x1 x2).2 ++ dgs b.2.2.2) = dlyD x x' := by
      rw [← dly_app P, ← List.append_assoc, ← List.append_assoc]
      have q1 : P ++ (dlyD x1 x2).1 = x1 := p1.symm
      have q2 : P ++ (dlyD x1 x2).2 = x2 := p2.symm
      rw [q1, q2, e1, e2]
    dsimp only at this
    rw [e, a1, b1] at this
    exact this
theorem twins_len (k : MaOk M) (h : (twJ M).1 = 1) {w : List Nat} {q q' : Nat} {x x' : zWo} (hx : upS M w q x) (hx' : upS M w q' x') : (dlyD x x').1.length ≤ 108 ∧ (dlyD x x').2.length ≤ 108 := by
  have h1 := (twJ_end k h).2.1 _ (twins_all k h w q q' x x' hx hx')
  have := twLim_le k
  dsimp only at h1
  omega
end TWA
abbrev zSe : Type := List (Option zWo)
def stAt (s : zSe) (q : Nat) : Option zWo := s.getD q none
theorem stAt_set {s : zSe} {q j : Nat} {o : Option zWo} (hq : q < s.length) : stAt (s.set q o) j = if j = q then o else stAt s j := by
  unfold stAt
  rw [List.getD_eq_getElem?_getD, List.getD_eq_getElem?_getD, List.getElem?_set]
  by_cases e : q = j
  · subst e
    rw [if_pos rfl, if_pos rfl, if_pos hq]
    rfl
  · rw [if_neg e, if_neg (fun z => e z.symm)]
theorem stAt_ext {s t : zSe} (h1 : s.length = 6) (h2 : t.length = 6) (h : ∀ q, q < 6 → stAt s q = stAt t q) : s = t := by
  apply List.ext_getElem (by omega)
  intro i a b
  have := h i (by omega)
  unfold stAt at this
  rw [List.getD_eq_getElem?_getD, List.getD_eq_getElem?_getD, List.getElem?_eq_getElem a, List.getElem?_eq_getElem b] at this
  exact this
theorem stAt_some {s : zSe} {q : Nat} {r : zWo} (h : stAt s q = some r) : q < s.length := by
  unfold stAt at h
  rcases Nat.lt_or_ge q s.length with c | c
  · exact c
  · rw [List.getD_eq_getElem?_getD, List.getElem?_eq_none c] at h
    cases h
def stNo (m : zSe) : Bool := m.all (·.isNone)
theorem stNo_iff {m : zSe} : stNo m = true ↔ ∀ q, stAt m q = none := by
  unfold stNo
  rw [List.all_eq_true]
  constructor
  · intro h q
    cases e : stAt m q with
    | none => rfl
    | some r =>
      have hq := stAt_some e
      unfold stAt at e
      rw [List.getD_eq_getElem?_getD, List.getElem?_eq_getElem hq] at e
      have := h _ (List.getElem_mem hq)
      have e : m[q] = some r := e
      rw [e] at this
      cases this
  · intro h x hx
    obtain ⟨i, hi, e⟩ := List.mem_iff_getElem.mp hx
    have := h i
    unfold stAt at this
    rw [List.getD_eq_getElem?_getD, List.getElem?_eq_getElem hi] at this
    have this : m[i] = none := this
    rw [← e, this]
    rfl
theorem stNo_not {m : zSe} (h : stNo m = false) : ∃ q r, stAt m q = some r := by
  refine Classical.byContradiction fun z => ?_
  have : stNo m = true := stNo_iff.mpr (fun q => by
    cases e : stAt m q with
    | none => rfl
    | some r => exact absurd ⟨q, r, e⟩ z)
  rw [this] at h
  cases h
/-- the first arc that leads to a state tells what is left there -/
def gaF (M : zMa) (s : zSe) (l : Nat) (m : zSe) (a : zArc) : zSe := match stAt s a.1 with
  | none => m
  | some r => if a.2.1 = l ∧ isU M a.2.2.1 = true ∧ stAt m a.2.2.1 = none then m.set a.2.2.1 (some (r ++ dgs a.2.2.2)) else m
/-- the last one does -/
def gaR (M : zMa) (s : zSe) (l : Nat) (m : zSe) (a : zArc) : zSe := match stAt s a.1 with
  | none => m
  | some r => if a.2.1 = l ∧ isU M a.2.2.1 = true then m.set a.2.2.1 (some (r ++ dgs a.2.2.2)) else m
abbrev st0 : zSe := List.replicate 6 none
def gath (M : zMa) (s : zSe) (l : Nat) : zSe := M.2.2.2.foldl (gaF M s l) st0
def gathR (M : zMa) (s : zSe) (l : Nat) : zSe := M.2.2.2.foldl (gaR M s l) st0
theorem st0_at (q : Nat) : stAt st0 q = none := by
  unfold stAt st0
  rw [List.getD_eq_getElem?_getD, List.getElem?_replicate]
  split <;> rfl
/-- what is told comes by an arc -/
def gaIn (M : zMa) (s : zSe) (l : Nat) (m : zSe) : Prop := m.length = 6 ∧ ∀ q v, stAt m q = some v → ∃ a ∈ M.2.2.2, a.2.1 = l ∧ a.2.2.1 = q ∧ isU M q = true ∧ ∃ r, stAt s a.1 = some r ∧ v = r ++ dgs a.2.2.2
theorem ga_set {M : zMa} (k : MaOk M) {s m : zSe} {l : Nat} {a : zArc} {r : zWo} (h : gaIn M s l m) (ha : a ∈ M.2.2.2) (e : stAt s a.1 = some r) (h1 : a.2.1 = l ∧ isU M a.2.2.1 = true) : gaIn M s l (m.set a.2.2.1 (some (r ++ dgs a.2.2.2))) := by
  have k6 := k.1
  have ka := k.2.2.2.2 a ha
  refine ⟨by rw [List.length_set]; exact h.1, fun q v hv => ?_⟩
  rw [stAt_set (by rw [h.1]; omega)] at hv
  split at hv
  · rename_i z
    subst z
    exact ⟨a, ha, h1.1, rfl, h1.2, r, e, (Option.some.inj hv).symm⟩
  · exact h.2 q v hv
theorem gaIn_0 {M : zMa} {s : zSe} {l : Nat} : gaIn M s l st0 := ⟨by simp, fun q v h => by rw [st0_at] at h; cases h⟩
theorem gath_in {M : zMa} (k : MaOk M) (s : zSe) (l : Nat) : gaIn M s l (gath M s l) := foldl_inv (P := gaIn M s l) (fun m a ha h => by
  unfold gaF
  split
  · exact h
  · rename_i r e
    split
    · rename_i c
      exact ga_set k h ha e ⟨c.1, c.2.1⟩
    · exact h) gaIn_0
theorem gathR_in {M : zMa} (k : MaOk M) (s : zSe) (l : Nat) : gaIn M s l (gathR M s l) := foldl_inv (P := gaIn M s l) (fun m a ha h => by
  unfold gaR
  split
  · exact h
  · rename_i r e
    split
    · rename_i c
      exact ga_set k h ha e c
    · exact h) gaIn_0
theorem ga_keep {f : zSe → zArc → zSe} {q : Nat} (hf : ∀ m a, stAt m q ≠ none → stAt (f m a) q ≠ none) {a : zArc} : ∀ (as : List zArc) (m : zSe), (stAt m q ≠ none ∨ (a ∈ as ∧ ∀ m, m.length = 6 → stAt (f m a) q ≠ none)) → (∀ m a, m.length = 6 → (f m a).length = 6) → m.length = 6 → stAt (as.foldl f m) q ≠ none
  | [], m, h, _, _ => by
    rcases h with h | ⟨h, _⟩
    · exact h
    · cases h
  | b :: as, m, h, hl, hm => by
    refine ga_keep hf (a := a) as (f m b) ?_ hl (hl m b hm)
    rcases h with h | ⟨h, g⟩
    · exact Or.inl (hf m b h)
    · rcases List.mem_cons.mp h with e | e
      · subst e; exact Or.inl (g m hm)
      · exact Or.inr ⟨e, g⟩
theorem set_keep {m : zSe} {q p : Nat} {v : zWo} (h : stAt m q ≠ none) : stAt (m.set p (some v)) q ≠ none := by
  by_cases c : p < m.length
  · rw [stAt_set c]
    split
    · intro z; cases z
    · exact h
  · rw [List.set_eq_of_length_le (by omega)]
    exact h
theorem gaF_len (M : zMa) (s : zSe) (l : Nat) (m : zSe) (a : zArc) (h : m.length = 6) : (gaF M s l m a).length = 6 := by
  unfold gaF
  split
  · exact h
  · split
    · rw [List.length_set]; exact h
    · exact h
theorem gaR_len (M : zMa) (s : zSe) (l : Nat) (m : zSe) (a : zArc) (h : m.length = 6) : (gaR M s l m a).length = 6 := by
  unfold gaR
  split
  · exact h
  · split
    · rw [List.length_set]; exact h
    · exact h
theorem gath_all {M : zMa} (k : MaOk M) {s : zSe} {a : zArc} {r : zWo} (ha : a ∈ M.2.2.2) (hu : isU M a.2.2.1 = true) (e : stAt s a.1 = some r) : stAt (gath M s a.2.1) a.2.2.1 ≠ none := by
  have k6 := k.1
  have ka := k.2.2.2.2 a ha
  refine ga_keep (a := a) (fun m b h => ?_) _ _ (Or.inr ⟨ha, fun m hm => ?_⟩) (gaF_len M s a.2.1) (by simp)
  · unfold gaF
    split
    · exact h
    · split
      · exact set_keep h
      · exact h
  · unfold gaF
    rw [e]
    dsimp only
    by_cases c : stAt m a.2.2.1 = none
    · rw [if_pos ⟨rfl, hu, c⟩, stAt_set (by omega), if_pos rfl]
      intro z; cases z
    · rw [if_neg (fun z => c z.2.2)]
      exact c
theorem gathR_all {M : zMa} (k : MaOk M) {s : zSe} {a : zArc} {r : zWo} (ha : a ∈ M.2.2.2) (hu : isU M a.2.2.1 = true) (e : stAt s a.1 = some r) : stAt (gathR M s a.2.1) a.2.2.1 ≠ none := by
  have k6 := k.1
  have ka := k.2.2.2.2 a ha
  refine ga_keep (a := a) (fun m b h => ?_) _ _ (Or.inr ⟨ha, fun m hm => ?_⟩) (gaR_len M s a.2.1) (by simp)
  · unfold gaR
    split
    · exact h
    · split
      · exact set_keep h
      · exact h
  · unfold gaR
    rw [e]
    dsimp only
    rw [if_pos ⟨rfl, hu⟩, stAt_set (by omega), if_pos rfl]
    intro z; cases z
/-- a set stands for the ways of one word, all with one beginning of what was written -/
def stWd (M : zMa) (w : List Nat) (c : zWo) (s : zSe) : Prop := ∀ q r, stAt s q = some r → upS M w q (c ++ r)
theorem stWd_one {M : zMa} (k : MaOk M) (hf : difW FT M M = none) {w : List Nat} {c : zWo} {s : zSe} (h : stWd M w c s) {a b : zArc} {r r' : zWo} (ha : a ∈ M.2.2.2) (hb : b ∈ M.2.2.2) (e1 : a.2.1 = b.2.1) (e2 : a.2.2.1 = b.2.2.1) (hu : isU M a.2.2.1 = true) (h1 : stAt s a.1 = some r) (h2 : stAt s b.1 = some r') : r ++ dgs a.2.2.2 = r' ++ dgs b.2.2.2 := by
  have u1 : upS M (a.2.1 :: w) a.2.2.1 ((c ++ r) ++ dgs a.2.2.2) := ⟨a, ha, rfl, rfl, hu, _, h _ _ h1, rfl⟩
  have u2 : upS M (a.2.1 :: w) a.2.2.1 ((c ++ r') ++ dgs b.2.2.2) := ⟨b, hb, e2.symm, e1.symm, hu, _, h _ _ h2, rfl⟩
  have := upS_one k hf u1 u2
  rw [List.append_assoc, List.append_assoc] at this
  exact List.append_cancel_left this
theorem gath_to {M : zMa} (k : MaOk M) (hf : difW FT M M = none) {w : List Nat} {c : zWo} {s : zSe} (h : stWd M w c s) {a : zArc} {r : zWo} (ha : a ∈ M.2.2.2) (hu : isU M a.2.2.1 = true) (e : stAt s a.1 = some r) : stAt (gath M s a.2.1) a.2.2.1 = some (r ++ dgs a.2.2.2) := by
  cases q : stAt (gath M s a.2.1) a.2.2.1 with
  | none => exact absurd q (gath_all k ha hu e)
  | some v =>
    obtain ⟨b, hb, b1, b2, b3, r', h2, ev⟩ := (gath_in k s a.2.1).2 _ _ q
    rw [ev, stWd_one k hf h ha hb b1.symm b2.symm hu e h2]
/-- first or last: all the same -/
theorem gathR_eq {M : zMa} (k : MaOk M) (hf : difW FT M M = none) {w : List Nat} {c : zWo} {s : zSe} (h : stWd M w c s) (l : Nat) : gathR M s l = gath M s l := by
  refine stAt_ext (gathR_in k s l).1 (gath_in k s l).1 (fun q hq => ?_)
  cases e1 : stAt (gath M s l) q with
  | some v =>
    obtain ⟨a, ha, a1, a2, a3, r, h1, ev⟩ := (gath_in k s l).2 _ _ e1
    subst a1; subst a2
    cases e2 : stAt (gathR M s a.2.1) a.2.2.1 with
    | none => exact absurd e2 (gathR_all k ha a3 h1)
    | some v' =>
      obtain ⟨b, hb, b1, b2, b3, r', h2, ev'⟩ := (gathR_in k s a.2.1).2 _ _ e2
      rw [ev, ev', stWd_one k hf h ha hb b1.symm b2.symm a3 h1 h2]
  | none =>
    cases e2 : stAt (gathR M s l) q with
    | none => rfl
    | some v' =>
      obtain ⟨b, hb, b1, b2, b3, r', h2, ev'⟩ := (gathR_in k s l).2 _ _ e2
      subst b1; subst b2
      exact absurd e1 (gath_all k hb b3 h2)
