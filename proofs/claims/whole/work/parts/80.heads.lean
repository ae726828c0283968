/-! What may be written from a set on; the longest beginning that all of it has. -/
def stEnd (M : zMa) (s : zSe) : Option zWo := match (List.range 6).find? fun q => (stAt s q).isSome && (M.2.2.1 q).isSome with
  | none => none
  | some q => (stAt s q).bind fun r => (M.2.2.1 q).map fun e => r ++ dgs e
theorem stEnd_in {M : zMa} {s : zSe} {v : zWo} (h : stEnd M s = some v) : ∃ q r e, stAt s q = some r ∧ M.2.2.1 q = some e ∧ v = r ++ dgs e := by
  unfold stEnd at h
  split at h
  · cases h
  · rename_i q hq
    obtain ⟨r, hr, h2⟩ := Option.bind_eq_some_iff.mp h
    obtain ⟨e, he, h3⟩ := Option.map_eq_some_iff.mp h2
    exact ⟨q, r, e, hr, he, h3.symm⟩
theorem stEnd_of {M : zMa} (k : MaOk M) (hf : difW FT M M = none) {w : List Nat} {c : zWo} {s : zSe} (h : stWd M w c s) {q e : Nat} {r : zWo} (hr : stAt s q = some r) (he : M.2.2.1 q = some e) : stEnd M s = some (r ++ dgs e) := by
  have k6 := k.1
  have hq := (k.2.2.1 q e he).1
  unfold stEnd
  split
  · rename_i hn
    rw [List.find?_eq_none] at hn
    have := hn q (List.mem_range.mpr (by omega))
    rw [hr, he] at this
    exact absurd rfl this
  · rename_i q' hq'
    have h1 := List.find?_some hq'
    rw [Bool.and_eq_true] at h1
    obtain ⟨r', hr'⟩ := Option.isSome_iff_exists.mp h1.1
    obtain ⟨e', he'⟩ := Option.isSome_iff_exists.mp h1.2
    rw [hr', he']
    have := upS_end k hf (h _ _ hr) (h _ _ hr') he he'
    rw [List.append_assoc, List.append_assoc] at this
    rw [List.append_cancel_left this]
    rfl
def goAt (X : zSs) (i : Nat) : Option (zWo × Nat) := X.2.getD i none
def seAt (X : zSs) (s : Nat) : zSe := X.1.getD s []
def lgW (M : zMa) (X : zSs) : Nat → Nat → zWo → Prop
  | 0, s, v => stEnd M (seAt X s) = some v
  | k + 1, s, v => ∃ j, j < 3 ∧ ∃ o g, goAt X (3 * s + j) = some (o, g) ∧ ∃ v', lgW M X k g v' ∧ v = o ++ v'
/-- a machine that is sequential, with all its sets -/
def sGood (M : zMa) : Prop := MaOk M ∧ difW FT M M = none ∧ (twJ M).1 = 1 ∧ (sMake M).1.length ≤ 100
section LG
variable {M : zMa}
theorem seAt_get {X : zSs} {s : Nat} (h : s < X.1.length) : X.1[s]? = some (seAt X s) := by
  unfold seAt
  rw [List.getD_eq_getElem?_getD, List.getElem?_eq_getElem h]
  rfl
theorem seAt_of {X : zSs} {s : Nat} {t : zSe} (h : X.1[s]? = some t) : seAt X s = t := by
  unfold seAt
  rw [List.getD_eq_getElem?_getD, h]
  rfl
theorem sGood.se (h : sGood M) {s : Nat} (hs : s < (sMake M).1.length) : seOk M (seAt (sMake M) s) := (sMake_ok h.1).1 _ (List.mem_of_getElem? (seAt_get hs))
theorem sGood.gos (h : sGood M) : (sMake M).2.length = 3 * (sMake M).1.length := ((sMake_ok h.1).2.2 h.2.2.2).1
/-- a way of a set -/
theorem sGood.go (h : sGood M) {s j : Nat} (hs : s < (sMake M).1.length) (hj : j < 3) : goOk M (seAt (sMake M) s) (j + 1) (goAt (sMake M) (3 * s + j)) (sMake M).1 := by
  have hl := h.gos
  obtain ⟨s', q1, q2⟩ := ((sMake_ok h.1).2.2 h.2.2.2).2 (3 * s + j) (goAt (sMake M) (3 * s + j)) (by
    unfold goAt
    rw [List.getD_eq_getElem?_getD, List.getElem?_eq_getElem (by omega)]
    rfl)
  rw [show (3 * s + j) / 3 = s by omega] at q1
  rw [show (3 * s + j) % 3 = j by omega] at q2
  rw [seAt_of q1]
  exact q2
theorem sGood.go_lt (h : sGood M) {s j : Nat} {o : zWo} {g : Nat} (e : goAt (sMake M) (3 * s + j) = some (o, g)) (hj : j < 3) : s < (sMake M).1.length ∧ g < (sMake M).1.length := by
  have hl := h.gos
  have hs : s < (sMake M).1.length := by
    rcases Nat.lt_or_ge s (sMake M).1.length with c | c
    · exact c
    · unfold goAt at e
      rw [List.getD_eq_getElem?_getD, List.getElem?_eq_none (by omega)] at e
      cases e
  have := h.go hs hj
  rw [e] at this
  exact ⟨hs, (List.getElem?_eq_some_iff.mp this.2.2).1⟩
theorem way_lg (h : sGood M) : ∀ (u : List Nat) (s q : Nat) (r y : zWo), s < (sMake M).1.length → stAt (seAt (sMake M) s) q = some r → wayO M u q y → lgW M (sMake M) u.length s (r ++ y)
  | [], s, q, r, y, hs, hr, ⟨e, he, hy⟩ => by
    obtain ⟨_, _, _, w, c, hw⟩ := h.se hs
    show stEnd M _ = _
    rw [stEnd_of h.1 h.2.1 hw hr he, hy]
  | l :: u, s, q, r, y, hs, hr, ⟨a, ha, a1, a2, y', hy', e⟩ => by
    obtain ⟨_, _, _, w, c, hw⟩ := h.se hs
    have ka := h.1.2.2.2.2 a ha
    subst a1
    have hu : isU M a.1 = true := upS_use (hw _ _ hr)
    have hu2 := isU_arc h.1 ha hu hy'
    have ht := gath_to h.1 h.2.1 hw ha hu2 hr
    have hg := h.go hs (j := a.2.1 - 1) (by omega)
    rw [show a.2.1 - 1 + 1 = a.2.1 by omega] at hg
    cases eg : goAt (sMake M) (3 * s + (a.2.1 - 1)) with
    | none =>
      rw [eg] at hg
      have := stNo_iff.mp hg a.2.2.1
      rw [ht] at this
      cases this
    | some p =>
      obtain ⟨o, g⟩ := p
      rw [eg] at hg
      obtain ⟨g1, g2, g3⟩ := hg
      have hgl := (List.getElem?_eq_some_iff.mp g3).1
      have ih := way_lg h u g a.2.2.1 ((r ++ dgs a.2.2.2).drop (drw (gath M (seAt (sMake M) s) a.2.1))) y' hgl (by
        rw [seAt_of g3, stDrop_at, ht]
        rfl) hy'
      refine ⟨a.2.1 - 1, by omega, o, g, eg, _, ih, ?_⟩
      rw [← List.append_assoc, g2, ← drw_split (mem_stAt.mpr ⟨_, ht⟩), e, List.append_assoc]
theorem lg_len (h : sGood M) : ∀ (k s : Nat) (v : zWo), lgW M (sMake M) k s v → s < (sMake M).1.length ∧ ∃ q r y, stAt (seAt (sMake M) s) q = some r ∧ v = r ++ y ∧ y.length ≤ 3 * (k + 1) ∧ LOk y
  | 0, s, v, hv => by
    obtain ⟨q, r, e, hr, he, hv⟩ := stEnd_in hv
    have hs : s < (sMake M).1.length := by
      rcases Nat.lt_or_ge s (sMake M).1.length with c | c
      · exact c
      · have := stAt_some hr
        unfold seAt at this
        rw [List.getD_eq_getElem?_getD, List.getElem?_eq_none c] at this
        cases this
    have kw := (h.1.2.2.1 q e he).2
    exact ⟨hs, q, r, dgs e, hr, hv, kw.len, kw.dig⟩
  | k + 1, s, v, ⟨j, hj, o, g, e, v', hv', hv⟩ => by
    have hs := h.go_lt e hj
    obtain ⟨_, q, r, y, hr, hy, hl, ho⟩ := lg_len h k g v' hv'
    have hg := h.go hs.1 hj
    rw [e] at hg
    obtain ⟨g1, g2, g3⟩ := hg
    rw [seAt_of g3, stDrop_at] at hr
    obtain ⟨x, hx, rfl⟩ := Option.map_eq_some_iff.mp hr
    obtain ⟨a, ha, a1, a2, a3, r', h1, ev⟩ := (gath_in h.1 _ _).2 _ _ hx
    have ka := h.1.2.2.2.2 a ha
    refine ⟨hs.1, a.1, r', dgs a.2.2.2 ++ y, h1, ?_, ?_, (h.1.wLOk ha).app ho⟩
    · rw [hv, hy, ← List.append_assoc, g2, ← drw_split (mem_stAt.mpr ⟨_, hx⟩), ev, List.append_assoc]
    · rw [List.length_append]
      have := ka.2.2.2.len
      omega
theorem lg_len2 (h : sGood M) {k s : Nat} {v : zWo} (hv : lgW M (sMake M) k s v) : v.length ≤ 108 + 3 * (k + 1) ∧ LOk v := by
  obtain ⟨hs, q, r, y, hr, e, hl, ho⟩ := lg_len h k s v hv
  have := se_len h.1 h.2.2.1 (h.se hs) hr
  rw [e, List.length_append]
  exact ⟨by omega, this.2.app ho⟩
/-- from every set an end is near -/
theorem lg_some (h : sGood M) {s : Nat} (hs : s < (sMake M).1.length) : ∃ k v, k ≤ 6 ∧ lgW M (sMake M) k s v := by
  have hk := h.se hs
  obtain ⟨q, r, hr⟩ := stNo_not hk.2.1
  obtain ⟨w, c, hw⟩ := hk.2.2.2
  obtain ⟨u, y, hu, hy⟩ := isU_out h.1 (upS_use (hw _ _ hr))
  exact ⟨u.length, _, hu, way_lg h u s q r y hs hr hy⟩
noncomputable def lgS (M : zMa) (k s : Nat) : Bool := @decide (∃ j v, j ≤ k ∧ lgW M (sMake M) j s v) (Classical.propDecidable _)
theorem lgS_iff {k s : Nat} : lgS M k s = true ↔ ∃ j v, j ≤ k ∧ lgW M (sMake M) j s v := by
  unfold lgS
  exact @decide_eq_true_iff _ (Classical.propDecidable _)
/-- within as many letters as there are sets -/
theorem lg_few (h : sGood M) {s : Nat} (hs : s < (sMake M).1.length) : ∃ k v, k ≤ (sMake M).1.length ∧ lgW M (sMake M) k s v := by
  have still : ∀ n, (sMake M).1.length ≤ n → ∀ x, x < (sMake M).1.length → lgS M n x = lgS M (n + 1) x := fun n hn => chain (lgS M) (fun n x _ h => by
    obtain ⟨j, v, h1, h2⟩ := lgS_iff.mp h
    exact lgS_iff.mpr ⟨j, v, by omega, h2⟩) (fun n e x hx => by
      cases h1 : lgS M (n + 1) x with
      | true =>
        obtain ⟨j, v, a, b⟩ := lgS_iff.mp h1
        exact (lgS_iff.mpr ⟨j, v, by omega, b⟩).symm
      | false =>
        cases h2 : lgS M (n + 2) x with
        | false => rfl
        | true =>
          exfalso
          obtain ⟨k, v, a, b⟩ := lgS_iff.mp h2
          have : lgS M (n + 1) x = true := by
            cases k with
            | zero => exact lgS_iff.mpr ⟨0, v, Nat.zero_le _, b⟩
            | succ k =>
              obtain ⟨j, hj, o, g, eg, v', hv', ev⟩ := b
              have hg := (h.go_lt eg hj).2
              have : lgS M (n + 1) g = true := lgS_iff.mpr ⟨k, v', by omega, hv'⟩
              rw [← e _ hg] at this
              obtain ⟨k2, v2, d1, d2⟩ := lgS_iff.mp this
              exact lgS_iff.mpr ⟨k2 + 1, o ++ v2, by omega, j, hj, o, g, eg, v2, d2, rfl⟩
          rw [h1] at this
          cases this) n (by omega)
  have up : ∀ d, lgS M (sMake M).1.length s = lgS M ((sMake M).1.length + d) s := by
    intro d
    induction d with
    | zero => rfl
    | succ d ih => rw [ih, still ((sMake M).1.length + d) (by omega) s hs]; rfl
  obtain ⟨k, v, _, hk⟩ := lg_some h hs
  have : lgS M ((sMake M).1.length + k) s = true := lgS_iff.mpr ⟨k, v, by omega, hk⟩
  rw [← up] at this
  exact lgS_iff.mp this
/-- a beginning of all that may be written -/
def cmB (M : zMa) (s : Nat) (P : zWo) : Prop := ∀ k v, lgW M (sMake M) k s v → P <+: v
/-- the longest one -/
def isHd (M : zMa) (s : Nat) (w : zWo) : Prop := cmB M s w ∧ ∀ P, cmB M s P → P <+: w
theorem isHd_one {s : Nat} {w w' : zWo} (h : isHd M s w) (h' : isHd M s w') : w = w' := by
  have a := h.2 _ h'.1
  have b := h'.2 _ h.1
  exact b.eq_of_length (Nat.le_antisymm b.length_le a.length_le)
theorem pre_cancel {o P v : zWo} (h : P <+: o ++ v) (hl : o.length ≤ P.length) : ∃ P', P = o ++ P' ∧ P' <+: v := by
  obtain ⟨t, e⟩ := h
  have e1 := congrArg (List.take o.length) e
  rw [List.take_append_of_le_length hl, List.take_left] at e1
  refine ⟨P.drop o.length, ?_, t, ?_⟩
  · have := List.take_append_drop o.length P
    rw [e1] at this
    exact this.symm
  · have e2 := congrArg (List.drop o.length) e
    rw [List.drop_append_of_le_length hl, List.drop_left] at e2
    exact e2
/-- what begins all begins a way's word and what bounds from above behind it -/
theorem pre_go (h : sGood M) {s j g : Nat} {o P C : zWo} (hP : cmB M s P) (hj : j < 3) (e : goAt (sMake M) (3 * s + j) = some (o, g)) (hC : ∀ P, cmB M g P → P <+: C) : P <+: o ++ C := by
  obtain ⟨k, v, _, hv⟩ := lg_some h (h.go_lt e hj).2
  have h1 : P <+: o ++ v := hP (k + 1) _ ⟨j, hj, o, g, e, v, hv, rfl⟩
  rcases Nat.lt_or_ge P.length o.length with c | c
  · exact (List.prefix_of_prefix_length_le h1 (List.prefix_append o v) (by omega)).trans (List.prefix_append o C)
  · obtain ⟨P', e1, _⟩ := pre_cancel h1 c
    have : cmB M g P' := fun k v hv => by
      have h2 : P <+: o ++ v := hP (k + 1) _ ⟨j, hj, o, g, e, v, hv, rfl⟩
      obtain ⟨P2, e2, h3⟩ := pre_cancel h2 c
      rw [e1] at e2
      rw [List.append_cancel_left e2]
      exact h3
    rw [e1]
    exact (List.prefix_append_right_inj o).mpr (hC P' this)
/-- what begins all it should, and is bounded from above, is the longest beginning -/
theorem hd_fix {C : Nat → zWo} {n : Nat} (hn : n = (sMake M).1.length) (h : sGood M) (h1 : ∀ s, s < n → ∀ P, cmB M s P → P <+: C s) (h2 : ∀ s, s < n → (∀ v, stEnd M (seAt (sMake M) s) = some v → C s <+: v) ∧ ∀ j, j < 3 → ∀ o g, goAt (sMake M) (3 * s + j) = some (o, g) → C s <+: o ++ C g) : ∀ s, s < n → isHd M s (C s) := by
  have main : ∀ k s v, s < n → lgW M (sMake M) k s v → C s <+: v := by
    intro k
    induction k with
    | zero => intro s v hs hv; exact (h2 s hs).1 v hv
    | succ k ih =>
      rintro s v hs ⟨j, hj, o, g, e, v', hv', ev⟩
      rw [ev]
      refine ((h2 s hs).2 j hj o g e).trans ((List.prefix_append_right_inj o).mpr (ih g v' ?_ hv'))
      rw [hn]
      exact (h.go_lt e hj).2
  exact fun s hs => ⟨fun k v hv => main k s v hs hv, h1 s hs⟩
theorem pre_lcp : ∀ {P a b : zWo}, P <+: a → P <+: b → P.length ≤ lcp a b
  | [], a, b, _, _ => Nat.zero_le _
  | x :: P, [], b, h, _ => by simp at h
  | x :: P, y :: a, [], _, h => by simp at h
  | x :: P, y :: a, z :: b, h, g => by
    obtain ⟨h1, h2⟩ := List.cons_prefix_cons.mp h
    obtain ⟨g1, g2⟩ := List.cons_prefix_cons.mp g
    rw [lcp, if_pos (h1.symm.trans g1), List.length_cons]
    have := pre_lcp h2 g2
    omega
theorem pre_take {P a : zWo} {n : Nat} (h : P <+: a) (hl : P.length ≤ n) : P <+: a.take n := by
  obtain ⟨t, rfl⟩ := h
  rw [List.take_append]
  rw [List.take_of_length_le hl]
  exact List.prefix_append _ _
theorem lcp_pfx : ∀ {a b : zWo}, lcp a b = a.length → a <+: b
  | [], b, _ => List.nil_prefix
  | x :: a, [], h => by simp [lcp] at h
  | x :: a, y :: b, h => by
    by_cases e : x = y
    · rw [lcp, if_pos e] at h
      rw [e]
      exact List.cons_prefix_cons.mpr ⟨rfl, lcp_pfx (by simpa using h)⟩
    · rw [lcp, if_neg e] at h
      simp at h
end LG
