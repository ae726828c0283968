/-! The reference: twins; one comes. -/
theorem ext_getD {w v : zWo} (hl : w.length = v.length) (h : ∀ j, j < v.length → w.getD j 0 = v.getD j 0) : w = v := by
  apply List.ext_getElem hl
  intro i h1 h2
  have := h i h2
  simpa [List.getD_eq_getElem?_getD, h1, h2] using this
theorem mem_kAt {T : List zCf} {c : zCf} (h : c ∈ T) : ∃ i, i < T.length ∧ kAt T i = c := by
  obtain ⟨i, hi, e⟩ := List.getElem_of_mem h
  refine ⟨i, hi, ?_⟩
  unfold kAt
  rw [List.getD_eq_getElem?_getD, List.getElem?_eq_getElem hi]
  exact e
theorem kAt_end {T : List zCf} {c : zCf} : kAt (T ++ [c]) T.length = c := kAt_r (i := 0)
def TwC (h : zM) (m i : Nat) (c : zCf) : Prop := zI h (m + 46) i = nI (6 * c.1.1 + c.1.2) ∧ zI h (m + 47) i = nI c.2.1.length ∧ zI h (m + 48) i = nI c.2.2.length ∧ Rw h (m + 49) (224 * i) c.2.1 ∧ Rw h (m + 49) (224 * i + 112) c.2.2
def TwK (c : zCf) : Prop := c.1.1 < 6 ∧ c.1.2 < 6 ∧ c.2.1.length ≤ 111 ∧ c.2.2.length ≤ 111
def TwR (h : zM) (m : Nat) (T : List zCf) : Prop := T.length ≤ 1001 ∧ ∀ i, i < T.length → TwC h m i (kAt T i) ∧ TwK (kAt T i)
/-- twins, their limit, whether one is longer -/
def TwS (h : zM) (m lim : Nat) (S : zTs) : Prop := zI h m 54 = nI S.1.length ∧ zI h m 59 = nI lim ∧ zI h m 60 = bI S.2 ∧ TwR h m S.1
theorem TwC.o {h h' : zM} {m i : Nat} {c : zCf} {L J : List Nat} (d : TwC h m i c) (o : zOf m L J h h') (hL : ∀ k ∈ L, k < 46 ∨ 49 < k) : TwC h' m i c := by
  have no : ∀ k, 46 ≤ k → k ≤ 49 → k ∉ L := fun k h1 h2 hm => by have := hL k hm; omega
  exact ⟨(o.C (by omega) (no 46 (by omega) (by omega)) _).trans d.1, (o.C (by omega) (no 47 (by omega) (by omega)) _).trans d.2.1, (o.C (by omega) (no 48 (by omega) (by omega)) _).trans d.2.2.1, d.2.2.2.1.of (fun j _ => o.C (by omega) (no 49 (by omega) (by omega)) _), d.2.2.2.2.of (fun j _ => o.C (by omega) (no 49 (by omega) (by omega)) _)⟩
theorem TwS.o {h h' : zM} {m lim : Nat} {S : zTs} {L J : List Nat} (d : TwS h m lim S) (o : zOf m L J h h') (hL : ∀ k ∈ L, k < 46 ∨ 49 < k) (hJ : 54 ∉ J ∧ 59 ∉ J ∧ 60 ∉ J) : TwS h' m lim S :=
  ⟨(o.J hJ.1).trans d.1, (o.J hJ.2.1).trans d.2.1, (o.J hJ.2.2).trans d.2.2.1, d.2.2.2.1, fun i hi => ⟨(d.2.2.2.2 i hi).1.o o hL, (d.2.2.2.2 i hi).2⟩⟩
/-- what is left of both rows behind n letters -/
def CL (h : zM) (m n : Nat) (x y : zWo) : Prop := zI h m 45 = nI (n + x.length) ∧ zI h m 46 = nI (n + y.length) ∧ zI h m 47 = nI n ∧ Rw h (m + 39) n x ∧ Rw h (m + 40) n y ∧ LOk x ∧ LOk y ∧ n ≤ 500 ∧ x.length ≤ 111 ∧ y.length ≤ 111
theorem CL.o {h h' : zM} {m n : Nat} {x y : zWo} {L J : List Nat} (d : CL h m n x y) (o : zOf m L J h h') (hL : 39 ∉ L ∧ 40 ∉ L) (hJ : 45 ∉ J ∧ 46 ∉ J ∧ 47 ∉ J) : CL h' m n x y :=
  ⟨(o.J hJ.1).trans d.1, (o.J hJ.2.1).trans d.2.1, (o.J hJ.2.2).trans d.2.2.1, d.2.2.2.1.of (fun j _ => o.C (by omega) hL.1 _), d.2.2.2.2.1.of (fun j _ => o.C (by omega) hL.2 _), d.2.2.2.2.2⟩
theorem LR.cl {h : zM} {m : Nat} {u v : zWo} (l : LR h m u v) (ou : LOk u) (ov : LOk v) (lu : u.length ≤ 500) (hu : (u.drop (lcp u v)).length ≤ 111) (hv : (v.drop (lcp u v)).length ≤ 111) : CL h m (lcp u v) (dlyD u v).1 (dlyD u v).2 := by
  have hle := lcp_le u v
  have e1 : (dlyD u v).1.length = u.length - lcp u v := List.length_drop
  have e2 : (dlyD u v).2.length = v.length - lcp u v := List.length_drop
  obtain ⟨l1, l2, l3, l4, l5⟩ := l
  refine ⟨by rw [l1, e1, show lcp u v + (u.length - lcp u v) = u.length by omega], by rw [l2, e2, show lcp u v + (v.length - lcp u v) = v.length by omega], l5, fun j hj => ?_, fun j hj => ?_, ou.drop _, ov.drop _, by omega, hu, hv⟩
  · have := l3 (lcp u v + j) (by omega)
    rw [Nat.zero_add] at this
    exact this.trans getD_drop.symm
  · have := l4 (lcp u v + j) (by omega)
    rw [Nat.zero_add] at this
    exact this.trans getD_drop.symm
section TWN
variable {h : zM} {m n i p q lim : Nat} {x y : zWo} {k : zCf} {T : List zCf}
theorem s_twin_170 (lay : MLay h m) (cl : CL h m n x y) (tc : TwC h m i k) (hi : i < 1002) (e2 : k.2.2.length = y.length) :
    zm_X12_twin 170 [some (.inr m), some (.inl (nI p)), some (.inl (nI q)), some (.inl (nI x.length)), some (.inl (nI y.length)), some (.inl (nI i)), some (.inl (1 : Int32)), some (.inl (nI 0))] [] h = if k.2.2 = y then some (0, 0, h) else zm_X12_twin 57 [some (.inr m), some (.inl (nI p)), some (.inl (nI q)), some (.inl (nI x.length)), some (.inl (nI y.length)), some (.inl (nI (i + 1))), none, none] [] h := by
  obtain ⟨c1, c2, c3, c4, c5, c6, c7, c8, c9, c10⟩ := cl
  refine zlq (P := fun j g => g = h ∧ ∀ j', j' < j → k.2.2.getD j' 0 = y.getD j' 0) (g := fun j g => zm_X12_twin 170 [some (.inr m), some (.inl (nI p)), some (.inl (nI q)), some (.inl (nI x.length)), some (.inl (nI y.length)), some (.inl (nI i)), some (.inl (1 : Int32)), some (.inl (nI j))] [] g) (n := y.length)
    (Q := fun z => z = if k.2.2 = y then some (0, 0, h) else zm_X12_twin 57 [some (.inr m), some (.inl (nI p)), some (.inl (nI q)), some (.inl (nI x.length)), some (.inl (nI y.length)), some (.inl (nI (i + 1))), none, none] [] h) ?_ ?_ 0 h (Nat.zero_le _) ⟨rfl, fun j hj => absurd hj (Nat.not_lt_zero _)⟩
  · rintro j g hj ⟨rfl, hs⟩
    have r1 : zba g (m + 49) (nI (224 * i + 112 + j)) = some (k.2.2.getD j 0) := by rw [mr58 lay (by omega), tc.2.2.2.2 j (by omega)]
    have r2 : zia g (m + 40) (nI (n + j)) = some (y.getD j 0) := by rw [mr44 lay (by omega), c5 j hj]
    rw [e_X12_twin_170, if_neg (by decide), if_pos ((nI_ltI (by omega) (by omega)).mpr hj), mF58 lay, Option.bind_some, n224, show (112 : Int32) = nI 112 from rfl, pk_mul, nI_add, nI_add, r1, Option.bind_some, mF44 lay, Option.bind_some, mi47 lay, Option.bind_some, c3, nI_add, r2, Option.bind_some, nI_1]
    by_cases c : k.2.2.getD j 0 = y.getD j 0
    · right
      rw [if_pos c]
      refine ⟨g, rfl, rfl, fun j' h2 => ?_⟩
      by_cases e : j' = j
      · rw [e]; exact c
      · exact hs j' (by omega)
    · left
      rw [if_neg c, e_X12_twin_170, if_pos rfl, if_pos rfl, nI_1, if_neg (fun z => c (by rw [z]))]
  · rintro g ⟨rfl, hs⟩
    have e : k.2.2 = y := ext_getD e2 (fun j hj => hs j (by omega))
    rw [e_X12_twin_170, if_neg (by decide), if_neg (by rw [nI_ltI (by omega) (by omega)]; omega), if_neg (by decide), if_pos e]
theorem s_twin_114 (lay : MLay h m) (cl : CL h m n x y) (tc : TwC h m i k) (hi : i < 1002) (e1 : k.2.1.length = x.length) (e2 : k.2.2.length = y.length) :
    zm_X12_twin 114 [some (.inr m), some (.inl (nI p)), some (.inl (nI q)), some (.inl (nI x.length)), some (.inl (nI y.length)), some (.inl (nI i)), some (.inl (1 : Int32)), some (.inl (nI 0))] [] h = if k.2 = (x, y) then some (0, 0, h) else zm_X12_twin 57 [some (.inr m), some (.inl (nI p)), some (.inl (nI q)), some (.inl (nI x.length)), some (.inl (nI y.length)), some (.inl (nI (i + 1))), none, none] [] h := by
  have last := s_twin_170 (p := p) (q := q) lay cl tc hi e2
  obtain ⟨c1, c2, c3, c4, c5, c6, c7, c8, c9, c10⟩ := cl
  refine zlq (P := fun j g => g = h ∧ ∀ j', j' < j → k.2.1.getD j' 0 = x.getD j' 0) (g := fun j g => zm_X12_twin 114 [some (.inr m), some (.inl (nI p)), some (.inl (nI q)), some (.inl (nI x.length)), some (.inl (nI y.length)), some (.inl (nI i)), some (.inl (1 : Int32)), some (.inl (nI j))] [] g) (n := x.length)
    (Q := fun z => z = if k.2 = (x, y) then some (0, 0, h) else zm_X12_twin 57 [some (.inr m), some (.inl (nI p)), some (.inl (nI q)), some (.inl (nI x.length)), some (.inl (nI y.length)), some (.inl (nI (i + 1))), none, none] [] h) ?_ ?_ 0 h (Nat.zero_le _) ⟨rfl, fun j hj => absurd hj (Nat.not_lt_zero _)⟩
  · rintro j g hj ⟨rfl, hs⟩
    have r1 : zba g (m + 49) (nI (224 * i + j)) = some (k.2.1.getD j 0) := by rw [mr58 lay (by omega), tc.2.2.2.1 j (by omega)]
    have r2 : zia g (m + 39) (nI (n + j)) = some (x.getD j 0) := by rw [mr43 lay (by omega), c4 j hj]
    rw [e_X12_twin_114, if_neg (by decide), if_pos ((nI_ltI (by omega) (by omega)).mpr hj), mF58 lay, Option.bind_some, n224, pk_mul, nI_add, r1, Option.bind_some, mF43 lay, Option.bind_some, mi47 lay, Option.bind_some, c3, nI_add, r2, Option.bind_some, nI_1]
    by_cases c : k.2.1.getD j 0 = x.getD j 0
    · right
      rw [if_pos c]
      refine ⟨g, rfl, rfl, fun j' h2 => ?_⟩
      by_cases e : j' = j
      · rw [e]; exact c
      · exact hs j' (by omega)
    · left
      rw [if_neg c, e_X12_twin_114, if_pos rfl, e_X12_twin_170, if_pos rfl, if_pos rfl, nI_1, if_neg (fun z => c (by rw [z]))]
  · rintro g ⟨rfl, hs⟩
    have e : k.2.1 = x := ext_getD e1 (fun j hj => hs j (by omega))
    rw [e_X12_twin_114, if_neg (by decide), if_neg (by rw [nI_ltI (by omega) (by omega)]; omega), n0, last]
    by_cases f : k.2.2 = y
    · rw [if_pos f, if_pos (Prod.ext e f)]
      rfl
    · rw [if_neg f, if_neg (fun z => f (by rw [z]))]
theorem s_twin_57 (lay : MLay h m) (cl : CL h m n x y) (tr : TwR h m T) (e54 : zI h m 54 = nI T.length) (hp : p < 6) (hq : q < 6) :
    (((p, q), x, y) ∈ T ∧ zm_X12_twin 57 [some (.inr m), some (.inl (nI p)), some (.inl (nI q)), some (.inl (nI x.length)), some (.inl (nI y.length)), some (.inl (nI 0)), none, none] [] h = some (0, 0, h)) ∨ (((p, q), x, y) ∉ T ∧ zm_X12_twin 57 [some (.inr m), some (.inl (nI p)), some (.inl (nI q)), some (.inl (nI x.length)), some (.inl (nI y.length)), some (.inl (nI 0)), none, none] [] h = zm_X12_twin 57 [some (.inr m), some (.inl (nI p)), some (.inl (nI q)), some (.inl (nI x.length)), some (.inl (nI y.length)), some (.inl (nI T.length)), none, none] [] h) := by
  have hl := tr.1
  have cx := cl.2.2.2.2.2.2.2.2.1
  have cy := cl.2.2.2.2.2.2.2.2.2
  refine zlq (P := fun i g => g = h ∧ ∀ j, j < i → kAt T j ≠ ((p, q), x, y)) (g := fun i g => zm_X12_twin 57 [some (.inr m), some (.inl (nI p)), some (.inl (nI q)), some (.inl (nI x.length)), some (.inl (nI y.length)), some (.inl (nI i)), none, none] [] g) (n := T.length)
    (Q := fun z => (((p, q), x, y) ∈ T ∧ z = some (0, 0, h)) ∨ (((p, q), x, y) ∉ T ∧ z = zm_X12_twin 57 [some (.inr m), some (.inl (nI p)), some (.inl (nI q)), some (.inl (nI x.length)), some (.inl (nI y.length)), some (.inl (nI T.length)), none, none] [] h)) ?_ ?_ 0 h (Nat.zero_le _) ⟨rfl, fun j hj => absurd hj (Nat.not_lt_zero _)⟩
  · rintro i g hi ⟨rfl, hn⟩
    obtain ⟨tc, k1, k2, k3, k4⟩ := tr.2 i hi
    have next : kAt T i ≠ ((p, q), x, y) → ∀ j, j < i + 1 → kAt T j ≠ ((p, q), x, y) := fun hne j hj => by
      by_cases e : j = i
      · rw [e]; exact hne
      · exact hn j (by omega)
    rw [e_X12_twin_57, mi54 lay, Option.bind_some, e54, if_pos ((nI_ltI (by omega) (by omega)).mpr hi), mF55 lay, Option.bind_some, mr55 lay (by omega), Option.bind_some, tc.1, n6, pk_mul, nI_add, nI_1]
    by_cases c1 : 6 * (kAt T i).1.1 + (kAt T i).1.2 = 6 * p + q
    · rw [if_pos (by rw [c1]), mF56 lay, Option.bind_some, mr56 lay (by omega), Option.bind_some, tc.2.1]
      by_cases c2 : (kAt T i).2.1.length = x.length
      · rw [if_pos (by rw [c2]), mF57 lay, Option.bind_some, mr57 lay (by omega), Option.bind_some, tc.2.2.1]
        by_cases c3 : (kAt T i).2.2.length = y.length
        · rw [if_pos (by rw [c3]), show ((0 : Int32)) = nI 0 from rfl, s_twin_114 lay cl tc (by omega) c2 c3]
          by_cases c4 : (kAt T i).2 = (x, y)
          · left; left
            rw [if_pos c4]
            have e : kAt T i = ((p, q), x, y) := Prod.ext (Prod.ext (by dsimp only; omega) (by dsimp only; omega)) c4
            exact ⟨by rw [← e]; exact kAt_mem hi, rfl⟩
          · right
            rw [if_neg c4]
            exact ⟨g, rfl, rfl, next (fun w => c4 (by rw [w]))⟩
        · right
          rw [if_neg (by rw [nI_eq (by omega) (by omega)]; exact c3)]
          exact ⟨g, rfl, rfl, next (fun w => c3 (by rw [w]))⟩
      · right
        rw [if_neg (by rw [nI_eq (by omega) (by omega)]; exact c2)]
        exact ⟨g, rfl, rfl, next (fun w => c2 (by rw [w]))⟩
    · right
      rw [if_neg (by rw [nI_eq (by omega) (by omega)]; exact c1)]
      exact ⟨g, rfl, rfl, next (fun w => c1 (by rw [w]))⟩
  · rintro g ⟨rfl, hn⟩
    right
    refine ⟨fun w => ?_, rfl⟩
    obtain ⟨i, hi, e⟩ := mem_kAt w
    exact hn i hi e
/-- it is written behind the others -/
theorem s_twin_put (lay : MLay h m) (cl : CL h m n x y) (tr : TwR h m T) (e54 : zI h m 54 = nI T.length) (hl : T.length ≤ 1000) (hp : p < 6) (hq : q < 6) :
    ∃ h', zm_X12_twin 57 [some (.inr m), some (.inl (nI p)), some (.inl (nI q)), some (.inl (nI x.length)), some (.inl (nI y.length)), some (.inl (nI T.length)), none, none] [] h = some (0, 0, h') ∧ zOf m [46, 47, 48, 49] [54] h h' ∧ TwR h' m (T ++ [((p, q), x, y)]) ∧ zI h' m 54 = nI (T ++ [((p, q), x, y)]).length := by
  rw [e_X12_twin_57, mi54 lay, Option.bind_some, e54, if_neg (by rw [nI_ltI (by omega) (by omega)]; omega), mF55 lay, Option.bind_some, Option.bind_some, n6, pk_mul, nI_add, mw55 lay (by omega), Option.bind_some, mF56 lay.sI, Option.bind_some, mi54 lay.sI, Option.bind_some, zI_sI_a (by omega), e54, mw56 lay.sI (by omega), Option.bind_some, mF57 lay.sI.sI, Option.bind_some, mi54 lay.sI.sI, Option.bind_some, zI_sI_a (by omega), zI_sI_a (by omega), e54, mw57 lay.sI.sI (by omega), Option.bind_some]
  generalize hz1 : zsI (zsI (zsI h (m + 46) T.length (nI (6 * p + q))) (m + 47) T.length (nI x.length)) (m + 48) T.length (nI y.length) = z1
  have o1 : zOf m [46, 47, 48, 49] [54] h z1 := by
    rw [← hz1]
    exact ((zOf_sI (by decide) (by decide)).tr (zOf_sI (by decide) (by decide))).tr (zOf_sI (by decide) (by decide))
  have w54 : zI z1 m 54 = nI T.length := by rw [← hz1, zI_sI_a (by omega), zI_sI_a (by omega), zI_sI_a (by omega), e54]
  have v46 : ∀ i, zI z1 (m + 46) i = if i = T.length then nI (6 * p + q) else zI h (m + 46) i := fun i => by
    rw [← hz1, zI_sI_a (by omega), zI_sI_a (by omega)]
    by_cases e : i = T.length
    · rw [if_pos e, e, zI_sI]
    · rw [if_neg e, zI_sI_k e]
  have v47 : ∀ i, zI z1 (m + 47) i = if i = T.length then nI x.length else zI h (m + 47) i := fun i => by
    rw [← hz1, zI_sI_a (by omega)]
    by_cases e : i = T.length
    · rw [if_pos e, e, zI_sI]
    · rw [if_neg e, zI_sI_k e, zI_sI_a (by omega)]
  have v48 : ∀ i, zI z1 (m + 48) i = if i = T.length then nI y.length else zI h (m + 48) i := fun i => by
    rw [← hz1]
    by_cases e : i = T.length
    · rw [if_pos e, e, zI_sI]
    · rw [if_neg e, zI_sI_k e, zI_sI_a (by omega), zI_sI_a (by omega)]
  have v49 : ∀ i, zI z1 (m + 49) i = zI h (m + 49) i := fun i => by rw [← hz1, zI_sI_a (by omega), zI_sI_a (by omega), zI_sI_a (by omega)]
  have l1 : MLay z1 m := o1.lay lay
  have cl1 : CL z1 m n x y := cl.o o1 (by decide) (by decide)
  clear hz1
  obtain ⟨c1, c2, c3, c4, c5, c6, c7, c8, c9, c10⟩ := cl1
  have cp := zwr (g := fun j z => zm_X12_twin 278 [some (.inr m), some (.inl (nI p)), some (.inl (nI q)), some (.inl (nI x.length)), some (.inl (nI y.length)), some (.inl (nI j)), none, none] [] z) (h := z1) (a := m + 49) (p := 224 * T.length) (n := x.length) (f := fun j => x.getD j 0) (fun j hj => by
    have lz : MLay (zWr z1 (m + 49) (224 * T.length) j fun j => x.getD j 0) m := (zOf_Wr (L := [49]) (J := []) (by decide) (by decide)).lay l1
    have f54 : zI (zWr z1 (m + 49) (224 * T.length) j fun j => x.getD j 0) m 54 = nI T.length := (zI_Wr_a (by omega)).trans w54
    have f47 : zI (zWr z1 (m + 49) (224 * T.length) j fun j => x.getD j 0) m 47 = nI n := (zI_Wr_a (by omega)).trans c3
    have r2 : zia (zWr z1 (m + 49) (224 * T.length) j fun j => x.getD j 0) (m + 39) (nI (n + j)) = some (x.getD j 0) := by rw [mr43 lz (by omega), zI_Wr_a (by omega), c4 j hj]
    rw [e_X12_twin_278, if_pos ((nI_ltI (by omega) (by omega)).mpr hj), mF58 lz, Option.bind_some, mi54 lz, Option.bind_some, f54, mF43 lz, Option.bind_some, mi47 lz, Option.bind_some, f47, nI_add, r2, Option.bind_some, n224, pk_mul, nI_add, mw58 lz (by omega), Option.bind_some, nI_1, c6.byte hj, c6.byte hj])
  have o2 : zOf m [46, 47, 48, 49] [54] z1 (zWr z1 (m + 49) (224 * T.length) x.length fun j => x.getD j 0) := zOf_Wr (by decide) (by decide)
  refine Exists.elim (show ∃ z, z = zWr z1 (m + 49) (224 * T.length) x.length fun j => x.getD j 0 from ⟨_, rfl⟩) fun z2 hz2 => ?_
  rw [← hz2] at cp o2
  have l2 : MLay z2 m := o2.lay l1
  have w54b : zI z2 m 54 = nI T.length := by rw [hz2, zI_Wr_a (by omega), w54]
  have f47b : zI z2 m 47 = nI n := by rw [hz2, zI_Wr_a (by omega), c3]
  have f40 : ∀ j, zI z2 (m + 40) j = zI z1 (m + 40) j := fun j => by rw [hz2, zI_Wr_a (by omega)]
  have step : zm_X12_twin 278 [some (.inr m), some (.inl (nI p)), some (.inl (nI q)), some (.inl (nI x.length)), some (.inl (nI y.length)), some (.inl (nI x.length)), none, none] [] z2 = zm_X12_twin 322 [some (.inr m), some (.inl (nI p)), some (.inl (nI q)), some (.inl (nI x.length)), some (.inl (nI y.length)), some (.inl (nI 0)), none, none] [] z2 := by
    rw [e_X12_twin_278, if_neg (by rw [nI_ltI (by omega) (by omega)]; omega)]
    rfl
  have cp2 := zwr (g := fun j z => zm_X12_twin 322 [some (.inr m), some (.inl (nI p)), some (.inl (nI q)), some (.inl (nI x.length)), some (.inl (nI y.length)), some (.inl (nI j)), none, none] [] z) (h := z2) (a := m + 49) (p := 224 * T.length + 112) (n := y.length) (f := fun j => y.getD j 0) (fun j hj => by
    have lz : MLay (zWr z2 (m + 49) (224 * T.length + 112) j fun j => y.getD j 0) m := (zOf_Wr (L := [49]) (J := []) (by decide) (by decide)).lay l2
    have f54 : zI (zWr z2 (m + 49) (224 * T.length + 112) j fun j => y.getD j 0) m 54 = nI T.length := (zI_Wr_a (by omega)).trans w54b
    have f47 : zI (zWr z2 (m + 49) (224 * T.length + 112) j fun j => y.getD j 0) m 47 = nI n := (zI_Wr_a (by omega)).trans f47b
    have r2 : zia (zWr z2 (m + 49) (224 * T.length + 112) j fun j => y.getD j 0) (m + 40) (nI (n + j)) = some (y.getD j 0) := by rw [mr44 lz (by omega), zI_Wr_a (by omega), f40, c5 j hj]
    rw [e_X12_twin_322, if_pos ((nI_ltI (by omega) (by omega)).mpr hj), mF58 lz, Option.bind_some, mi54 lz, Option.bind_some, f54, mF44 lz, Option.bind_some, mi47 lz, Option.bind_some, f47, nI_add, r2, Option.bind_some, n224, pk_mul, show (112 : Int32) = nI 112 from rfl, nI_add, nI_add, mw58 lz (by omega), Option.bind_some, nI_1, c7.byte hj, c7.byte hj])
  have o3 : zOf m [46, 47, 48, 49] [54] z2 (zWr z2 (m + 49) (224 * T.length + 112) y.length fun j => y.getD j 0) := zOf_Wr (by decide) (by decide)
  refine Exists.elim (show ∃ z, z = zWr z2 (m + 49) (224 * T.length + 112) y.length fun j => y.getD j 0 from ⟨_, rfl⟩) fun z3 hz3 => ?_
  rw [← hz3] at cp2 o3
  have l3 : MLay z3 m := o3.lay l2
  have w54c : zI z3 m 54 = nI T.length := by rw [hz3, zI_Wr_a (by omega), w54b]
  have end1 : zm_X12_twin 322 [some (.inr m), some (.inl (nI p)), some (.inl (nI q)), some (.inl (nI x.length)), some (.inl (nI y.length)), some (.inl (nI y.length)), none, none] [] z3 = some (0, 0, zsI z3 m 54 (nI (T.length + 1))) := by
    rw [e_X12_twin_322, if_neg (by rw [nI_ltI (by omega) (by omega)]; omega), mi54 l3, Option.bind_some, w54c, nI_1, mp54 l3, Option.bind_some]
  refine ⟨zsI z3 m 54 (nI (T.length + 1)), cp.trans (step.trans (cp2.trans end1)), ((o1.tr o2).tr o3).tr (zOf_pI (by decide)), ⟨by rw [List.length_append, List.length_singleton]; omega, fun i hi => ?_⟩, by rw [List.length_append, List.length_singleton]; exact zI_sI⟩
  rw [List.length_append, List.length_singleton] at hi
  have a49 : ∀ j, zI (zsI z3 m 54 (nI (T.length + 1))) (m + 49) j = zI z3 (m + 49) j := fun j => zI_sI_a (by omega)
  have b49 : ∀ j, ¬ (224 * T.length ≤ j ∧ j < 224 * T.length + 224) → zI z3 (m + 49) j = zI h (m + 49) j := fun j hj => by
    rw [hz3, zI_Wr_out (by omega), hz2, zI_Wr_out (by omega), v49]
  by_cases e : i = T.length
  · rw [e, kAt_end]
    refine ⟨⟨?_, ?_, ?_, fun j hj => ?_, fun j hj => ?_⟩, hp, hq, c9, c10⟩
    · rw [zI_sI_a (by omega), hz3, zI_Wr_a (by omega), hz2, zI_Wr_a (by omega), v46, if_pos rfl]
    · rw [zI_sI_a (by omega), hz3, zI_Wr_a (by omega), hz2, zI_Wr_a (by omega), v47, if_pos rfl]
    · rw [zI_sI_a (by omega), hz3, zI_Wr_a (by omega), hz2, zI_Wr_a (by omega), v48, if_pos rfl]
    · have hj : j < x.length := hj
      rw [a49, hz3, zI_Wr_out (by omega), hz2, zI_Wr_at hj]
    · have hj : j < y.length := hj
      rw [a49, hz3, zI_Wr_at hj]
  · obtain ⟨⟨t1, t2, t3, t4, t5⟩, k1, k2, k3, k4⟩ := tr.2 i (by omega)
    rw [kAt_l (by omega)]
    refine ⟨⟨?_, ?_, ?_, fun j hj => ?_, fun j hj => ?_⟩, k1, k2, k3, k4⟩
    · rw [zI_sI_a (by omega), hz3, zI_Wr_a (by omega), hz2, zI_Wr_a (by omega), v46, if_neg e, t1]
    · rw [zI_sI_a (by omega), hz3, zI_Wr_a (by omega), hz2, zI_Wr_a (by omega), v47, if_neg e, t2]
    · rw [zI_sI_a (by omega), hz3, zI_Wr_a (by omega), hz2, zI_Wr_a (by omega), v48, if_neg e, t3]
    · rw [a49, b49 _ (by omega), t4 j hj]
    · rw [a49, b49 _ (by omega), t5 j hj]
theorem s_mtwin {S : zTs} (lay : MLay h m) (d : TwS h m lim S) (cl : CL h m n x y) (hlim : lim < 2 ^ 30) (hp : p < 6) (hq : q < 6) :
    ∃ h', zf nX12_twin [.inr m, .inl (nI p), .inl (nI q)] h = some (0, 0, h') ∧ zOf m [46, 47, 48, 49] [54, 60] h h' ∧ TwS h' m lim (twAdd lim ((p, q), x, y) S) := by
  obtain ⟨d1, d2, d3, d4⟩ := id d
  obtain ⟨c1, c2, c3, c4, c5, c6, c7, c8, c9, c10⟩ := id cl
  have hl := d4.1
  -- the first part
  have main : ∀ z0, zOf m [46, 47, 48, 49] [54, 60] h z0 → zI z0 m 54 = nI S.1.length → zI z0 m 60 = bI (twAdd lim ((p, q), x, y) S).2 → CL z0 m n x y → TwR z0 m S.1 →
      ∃ h', (zgI z0 m 12 54).bind (fun v6 => if v6 = (1001 : Int32) then some ((0 : Int32), 0, z0) else zm_X12_twin 57 [some (.inr m), some (.inl (nI p)), some (.inl (nI q)), some (.inl (nI x.length)), some (.inl (nI y.length)), some (.inl (nI 0)), none, none] [] z0) = some (0, 0, h') ∧ zOf m [46, 47, 48, 49] [54, 60] h h' ∧ TwS h' m lim (twAdd lim ((p, q), x, y) S) := by
    intro z0 o f54 f60 cz tz
    have lz := o.lay lay
    have f59 : zI z0 m 59 = nI lim := (o.J (by decide)).trans d2
    rw [mi54 lz, Option.bind_some, f54, n1001]
    have ea : (twAdd lim ((p, q), x, y) S).1 = if S.1.length ≤ 1000 ∧ ((p, q), x, y) ∉ S.1 then S.1 ++ [((p, q), x, y)] else S.1 := rfl
    by_cases c : S.1.length = 1001
    · rw [if_pos (by rw [c])]
      rw [if_neg (fun w => by have := w.1; omega)] at ea
      exact ⟨z0, rfl, o, by rw [ea]; exact f54, f59, f60, by rw [ea]; exact tz⟩
    · rw [if_neg (by rw [nI_eq (by omega) (by omega)]; exact c)]
      rcases s_twin_57 lz cz tz f54 hp hq with ⟨e1, e2⟩ | ⟨e1, e2⟩
      · rw [e2]
        rw [if_neg (fun w => w.2 e1)] at ea
        exact ⟨z0, rfl, o, by rw [ea]; exact f54, f59, f60, by rw [ea]; exact tz⟩
      · rw [e2]
        rw [if_pos ⟨by omega, e1⟩] at ea
        obtain ⟨h', r1, r2, r3, r4⟩ := s_twin_put lz cz tz f54 (by omega) hp hq
        rw [r1]
        exact ⟨h', rfl, o.tr (r2.wide (by decide) (by decide)), by rw [ea]; exact r4, (r2.J (by decide)).trans f59, (r2.J (by decide)).trans f60, by rw [ea]; exact r3⟩
  have ef : (twAdd lim ((p, q), x, y) S).2 = (S.2 || decide (lim < x.length ∨ lim < y.length)) := rfl
  have s1 : nI (n + x.length) - nI n = nI x.length := by rw [pk_sub (by omega), Nat.add_sub_cancel_left]
  have s2 : nI (n + y.length) - nI n = nI y.length := by rw [pk_sub (by omega), Nat.add_sub_cancel_left]
  have o1 : zOf m [46, 47, 48, 49] [54, 60] h (zsI h m 60 1) := zOf_pI (by decide)
  have long : lim < x.length ∨ lim < y.length → _ := fun w => main (zsI h m 60 1) o1 ((zI_sI_k (by omega)).trans d1) (by rw [zI_sI, ef, decide_eq_true w, Bool.or_true]; rfl) ⟨(zI_sI_k (by omega)).trans c1, (zI_sI_k (by omega)).trans c2, (zI_sI_k (by omega)).trans c3, c4.of (fun j _ => zI_sI_a (by omega)), c5.of (fun j _ => zI_sI_a (by omega)), c6, c7, c8, c9, c10⟩ ⟨hl, fun i hi => ⟨(d4.2 i hi).1.o (zOf_pI (L := []) (J := [60]) (by decide)) (fun k hk => by cases hk), (d4.2 i hi).2⟩⟩
  rw [e_X12_twin]
  simp only [mi45 lay, mi46 lay, mi47 lay, mi59 lay, Option.bind_some, c1, c2, c3, d2, s1, s2]
  by_cases q1 : lim < x.length
  · rw [if_pos ((nI_ltI (by omega) (by omega)).mpr q1), mp60 lay (Or.inr rfl), Option.bind_some]
    exact long (Or.inl q1)
  · rw [if_neg (by rw [nI_ltI (by omega) (by omega)]; exact q1)]
    by_cases q2 : lim < y.length
    · rw [if_pos ((nI_ltI (by omega) (by omega)).mpr q2), mp60 lay (Or.inr rfl), Option.bind_some]
      exact long (Or.inr q2)
    · rw [if_neg (by rw [nI_ltI (by omega) (by omega)]; exact q2)]
      exact main h zOf.rf d1 (by rw [ef, decide_eq_false (fun w => w.elim q1 q2), Bool.or_false]; exact d3) cl d4
end TWN
