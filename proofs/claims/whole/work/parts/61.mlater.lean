/-! The reference: pairs with what was written. -/
/-- the pairs l: counted in the field f; states, sizes, letters in the arrays A, S, L -/
def RLs (h : zM) (m f A S L : Nat) (l : List (Nat × zWo)) : Prop := zI h m f = nI l.length ∧ l.length ≤ 60 ∧ ∀ i, i < l.length → zI h (m + A) i = nI (pAt l i).1 ∧ zI h (m + S) i = nI (pAt l i).2.length ∧ Rw h (m + L) (32 * i) (pAt l i).2 ∧ (pAt l i).2.length ≤ 32 ∧ (pAt l i).1 < 6
abbrev LTr (h : zM) (m : Nat) (l : List (Nat × zWo)) : Prop := RLs h m 15 15 16 17 l
abbrev PRs (h : zM) (m : Nat) (l : List (Nat × zWo)) : Prop := RLs h m 11 12 13 14 l
theorem RLs.o {h h' : zM} {m f A S L : Nat} {l : List (Nat × zWo)} {K J : List Nat} (d : RLs h m f A S L l) (o : zOf m K J h h') (hA : 0 < A ∧ A ∉ K) (hS : 0 < S ∧ S ∉ K) (hL : 0 < L ∧ L ∉ K) (hf : f ∉ J) : RLs h' m f A S L l :=
  ⟨by rw [o.J hf]; exact d.1, d.2.1, fun i hi => by
    obtain ⟨a1, a2, a3, a4, a5⟩ := d.2.2 i hi
    exact ⟨by rw [o.C hA.1 hA.2]; exact a1, by rw [o.C hS.1 hS.2]; exact a2, a3.of (fun j _ => o.C hL.1 hL.2 _), a4, a5⟩⟩
theorem RLs.nil {h : zM} {m f A S L : Nat} (e : zI h m f = 0) : RLs h m f A S L [] := ⟨e, Nat.zero_le _, fun i hi => by cases hi⟩
theorem s_mlater_in {h : zM} {m k q : Nat} {l : List (Nat × zWo)} {w : zWo} (lay : MLay h m) (d : LTr h m l) (hk : k < l.length) (hw : Rw h (m + 20) 0 w) (h32 : w.length ≤ 32) (e1 : (pAt l k).1 = q) (e2 : (pAt l k).2.length = w.length) :
    zm_X12_later 40 [some (.inr m), some (.inl (nI q)), some (.inl (nI w.length)), some (.inl (nI k)), some (.inl 1), some (.inl (nI 0))] [] h = if pAt l k = (q, w) then some (1, 0, h) else zm_X12_later 2 [some (.inr m), some (.inl (nI q)), some (.inl (nI w.length)), some (.inl (nI (k + 1))), none, none] [] h := by
  obtain ⟨a1, a2, a3, a4, a5⟩ := d.2.2 k hk
  have hl := d.2.1
  refine zlq (P := fun i g => g = h ∧ ∀ j, j < i → (pAt l k).2.getD j 0 = w.getD j 0) (g := fun i g => zm_X12_later 40 [some (.inr m), some (.inl (nI q)), some (.inl (nI w.length)), some (.inl (nI k)), some (.inl 1), some (.inl (nI i))] [] g) (n := w.length)
    (Q := fun x => x = if pAt l k = (q, w) then some (1, 0, h) else zm_X12_later 2 [some (.inr m), some (.inl (nI q)), some (.inl (nI w.length)), some (.inl (nI (k + 1))), none, none] [] h) ?_ ?_ 0 h (Nat.zero_le _) ⟨rfl, fun j hj => absurd hj (Nat.not_lt_zero _)⟩
  · rintro i g hi ⟨rfl, hj⟩
    have r1 : zia g (m + 17) (nI (32 * k + i)) = some ((pAt l k).2.getD i 0) := by rw [mr18 lay (by omega), a3 i (by omega)]
    have r2 : zia g (m + 20) (nI i) = some (w.getD i 0) := by rw [mr22 lay (by omega), ← hw i hi, Nat.zero_add]
    rw [e_X12_later_40, if_neg (by decide), if_pos ((nI_ltI (by omega) (by omega)).mpr hi), mF18 lay, Option.bind_some, n32, pk_mul, nI_add, r1, Option.bind_some, mF22 lay, Option.bind_some, r2, Option.bind_some, nI_1]
    by_cases c : (pAt l k).2.getD i 0 = w.getD i 0
    · right
      rw [if_pos c]
      refine ⟨g, rfl, rfl, fun j hj2 => ?_⟩
      by_cases e : j = i
      · subst e; exact c
      · exact hj j (by omega)
    · left
      rw [if_neg c, e_X12_later_40, if_pos rfl, if_pos rfl, nI_1, if_neg (fun z => c (by rw [z]))]
  · rintro g ⟨rfl, hj⟩
    have e : pAt l k = (q, w) := Prod.ext e1 (by
      apply List.ext_getElem e2
      intro i h1 h2
      have := hj i h2
      simpa [List.getD_eq_getElem?_getD, h1, h2] using this)
    rw [e_X12_later_40, if_neg (by decide), if_neg (by rw [nI_ltI (by omega) (by omega)]; omega), if_neg (by decide), zb1, if_pos e]
theorem s_mlater {h : zM} {m q : Nat} {l : List (Nat × zWo)} {w : zWo} (lay : MLay h m) (d : LTr h m l) (hw : Rw h (m + 20) 0 w) (h32 : w.length ≤ 32) (hq : q < 6) :
    ∃ h', zf nX12_later [.inr m, .inl (nI q), .inl (nI w.length)] h = some (if (outAdd (q, w) l).isSome then 1 else 0, 0, h') ∧ zOf m [15, 16, 17] [15] h h' ∧ LTr h' m ((outAdd (q, w) l).getD l) := by
  have hl := d.2.1
  rw [e_X12_later]
  refine zlq (P := fun k g => g = h ∧ ∀ j, j < k → pAt l j ≠ (q, w)) (g := fun k g => zm_X12_later 2 [some (.inr m), some (.inl (nI q)), some (.inl (nI w.length)), some (.inl (nI k)), none, none] [] g) (n := l.length)
    (Q := fun x => ∃ h', x = some (if (outAdd (q, w) l).isSome then 1 else 0, 0, h') ∧ zOf m [15, 16, 17] [15] h h' ∧ LTr h' m ((outAdd (q, w) l).getD l)) ?_ ?_ 0 h (Nat.zero_le _) ⟨rfl, fun j hj => absurd hj (Nat.not_lt_zero _)⟩
  · rintro k g hk ⟨rfl, hn⟩
    obtain ⟨a1, a2, a3, a4, a5⟩ := d.2.2 k hk
    have next : pAt l k ≠ (q, w) → ∀ j, j < k + 1 → pAt l j ≠ (q, w) := fun hne j hj => by
      by_cases e : j = k
      · subst e; exact hne
      · exact hn j (by omega)
    have skip : ∀ x : Int32, zm_X12_later 40 [some (.inr m), some (.inl (nI q)), some (.inl (nI w.length)), some (.inl (nI k)), some (.inl 0), some (.inl x)] [] g = zm_X12_later 2 [some (.inr m), some (.inl (nI q)), some (.inl (nI w.length)), some (.inl (nI (k + 1))), none, none] [] g := fun x => by
      rw [e_X12_later_40, if_pos rfl, if_pos rfl, nI_1]
    rw [e_X12_later_2, mi15 lay, Option.bind_some, d.1, if_pos ((nI_ltI (by omega) (by omega)).mpr hk), mF16 lay, Option.bind_some, mr16 lay (by omega), Option.bind_some, a1, mF17 lay, skip]
    by_cases c1 : (pAt l k).1 = q
    · rw [if_pos (by rw [c1]), Option.bind_some, mr17 lay (by omega), Option.bind_some, a2]
      by_cases c2 : (pAt l k).2.length = w.length
      · rw [if_pos (by rw [c2]), n0, s_mlater_in lay d hk hw h32 c1 c2]
        by_cases c3 : pAt l k = (q, w)
        · left
          have ea : outAdd (q, w) l = some l := by unfold outAdd; rw [if_pos (by rw [← c3]; exact pAt_mem hk)]
          rw [if_pos c3, ea]
          exact ⟨g, rfl, zOf.rf, d⟩
        · right
          rw [if_neg c3]
          exact ⟨g, rfl, rfl, next c3⟩
      · right
        rw [if_neg (by rw [nI_eq (by omega) (by omega)]; exact c2)]
        exact ⟨g, rfl, rfl, next (fun z => c2 (by rw [z]))⟩
    · right
      rw [if_neg (by rw [nI_eq (by omega) (by omega)]; exact c1)]
      exact ⟨g, rfl, rfl, next (fun z => c1 (by rw [z]))⟩
  · rintro g ⟨rfl, hn⟩
    have hm : (q, w) ∉ l := fun z => by
      obtain ⟨i, hi, e⟩ := mem_pAt z
      exact hn i hi e
    rw [e_X12_later_2, mi15 lay, Option.bind_some, d.1, if_neg (by rw [nI_ltI (by omega) (by omega)]; omega), Option.bind_some]
    by_cases c : l.length < 60
    · have ea : outAdd (q, w) l = some (l ++ [(q, w)]) := by unfold outAdd; rw [if_neg hm, if_pos c]
      rw [ea, if_neg (by rw [n60, nI_eq (by omega) (by omega)]; omega), mF16 lay, Option.bind_some, Option.bind_some, mw16 lay (by omega), Option.bind_some, mF17 lay.sI, Option.bind_some, mi15 lay.sI, Option.bind_some, zI_sI_a (by omega), d.1, mw17 lay.sI (by omega), Option.bind_some]
      generalize hg : zsI (zsI g (m + 15) l.length (nI q)) (m + 16) l.length (nI w.length) = g2
      have o2 : zOf m [15, 16, 17] [15] g g2 := by rw [← hg]; exact (zOf_sI (by decide) (by decide)).tr (zOf_sI (by decide) (by decide))
      have e15 : zI g2 m 15 = nI l.length := by rw [← hg, zI_sI_a (by omega), zI_sI_a (by omega)]; exact d.1
      have e20 : ∀ j, zI g2 (m + 20) j = zI g (m + 20) j := fun j => o2.C (by decide) (by decide) j
      have lay2 := o2.lay lay
      have cp := zwr (g := fun i z => zm_X12_later 132 [some (.inr m), some (.inl (nI q)), some (.inl (nI w.length)), some (.inl (nI i)), none, none] [] z) (h := g2) (a := m + 17) (p := 32 * l.length) (n := w.length) (f := fun j => w.getD j 0) (fun i hi => by
        have layz : MLay (zWr g2 (m + 17) (32 * l.length) i fun j => w.getD j 0) m := (zOf_Wr (L := [17]) (J := []) (by decide) (by decide)).lay lay2
        rw [e_X12_later_132, if_pos ((nI_ltI (by omega) (by omega)).mpr hi), mF18 layz, Option.bind_some, mi15 layz, Option.bind_some, zI_Wr_a (by omega), e15, mF22 layz, Option.bind_some, mr22 layz (by omega), Option.bind_some, zI_Wr_a (by omega), e20, n32, pk_mul, nI_add, mw18 layz (by omega), Option.bind_some, nI_1]
        have := hw i hi
        rw [Nat.zero_add] at this
        rw [this])
      rw [n0]
      refine ⟨zsI (zWr g2 (m + 17) (32 * l.length) w.length fun j => w.getD j 0) m 15 (nI (l.length + 1)), ?_, ?_, ?_⟩
      · refine Eq.trans cp ?_
        have layz : MLay (zWr g2 (m + 17) (32 * l.length) w.length fun j => w.getD j 0) m := (zOf_Wr (L := [17]) (J := []) (by decide) (by decide)).lay lay2
        rw [e_X12_later_132, if_neg (by rw [nI_ltI (by omega) (by omega)]; omega), mi15 layz, Option.bind_some, zI_Wr_a (by omega), e15, nI_1, mp15 layz, Option.bind_some, zb1]
        rfl
      · exact (o2.tr (zOf_Wr (by decide) (by decide))).tr (zOf_pI (by decide))
      · refine ⟨by rw [zI_sI]; simp, by simp; omega, fun i hi => ?_⟩
        have hi1 : i < l.length + 1 := by simpa using hi
        rw [zI_sI_a (by omega), zI_Wr_a (by omega), zI_sI_a (by omega), zI_Wr_a (by omega)]
        show zI g2 _ _ = nI (pAt (l ++ [(q, w)]) i).1 ∧ zI g2 _ _ = nI (pAt (l ++ [(q, w)]) i).2.length ∧ Rw _ _ _ (pAt (l ++ [(q, w)]) i).2 ∧ (pAt (l ++ [(q, w)]) i).2.length ≤ 32 ∧ (pAt (l ++ [(q, w)]) i).1 < 6
        rw [pAt_app]
        by_cases c2 : i < l.length
        · obtain ⟨a1, a2, a3, a4, a5⟩ := d.2.2 i c2
          rw [if_pos c2, ← hg, zI_sI_a (by omega), zI_sI_k (by omega), zI_sI_k (by omega), zI_sI_a (by omega), hg]
          exact ⟨a1, a2, a3.of (fun j hj => by rw [zI_sI_a (by omega), zI_Wr_out (by omega), ← hg, zI_sI_a (by omega), zI_sI_a (by omega)]), a4, a5⟩
        · have : i = l.length := by omega
          subst this
          rw [if_neg c2, if_pos rfl, ← hg, zI_sI_a (by omega), zI_sI, zI_sI, hg]
          exact ⟨rfl, rfl, fun j hj => by rw [zI_sI_a (by omega), zI_Wr_at hj], h32, hq⟩
    · have ea : outAdd (q, w) l = none := by unfold outAdd; rw [if_neg hm, if_neg c]
      rw [ea, if_pos (by rw [n60, nI_eq (by omega) (by omega)]; omega), zb0]
      exact ⟨g, rfl, zOf.rf, d⟩
theorem s_mnow {h : zM} {m : Nat} {l : List (Nat × zWo)} (lay : MLay h m) (d : LTr h m l) : ∃ h', zf nX12_nowLater [.inr m] h = some (0, 0, h') ∧ zOf m [12, 13, 14] [11, 15] h h' ∧ PRs h' m l ∧ LTr h' m [] := by
  have hl := d.2.1
  rw [e_X12_nowLater, mi15 lay, Option.bind_some, d.1, mp11 lay, Option.bind_some]
  have o1 : zOf m [12, 13, 14] [11] h (zsI h m 11 (nI l.length)) := zOf_pI (by decide)
  have main := zlp (P := fun k g => zOf m [12, 13, 14] [11] h g ∧ zI g m 11 = nI l.length ∧ ∀ i, i < k → zI g (m + 12) i = nI (pAt l i).1 ∧ zI g (m + 13) i = nI (pAt l i).2.length ∧ Rw g (m + 14) (32 * i) (pAt l i).2) (g := fun k g => zm_X12_nowLater 10 [some (.inr m), some (.inl (nI k)), none] [] g) (n := l.length) ?_ 0 (zsI h m 11 (nI l.length)) (Nat.zero_le _) ⟨o1, zI_sI, fun i hi => absurd hi (Nat.not_lt_zero _)⟩
  · obtain ⟨g, e1, e2, e3, e4⟩ := main
    have layg := e2.lay lay
    have dg := d.o e2 (by decide) (by decide) (by decide) (by decide)
    refine ⟨zsI g m 15 0, ?_, (e2.wide (by simp) (by simp)).tr (zOf_pI (by decide)), ⟨by rw [zI_sI_k (by decide)]; exact e3, hl, fun i hi => ?_⟩, RLs.nil zI_sI⟩
    · refine Eq.trans e1 ?_
      rw [e_X12_nowLater_10, mi15 layg, Option.bind_some, dg.1, if_neg (by rw [nI_ltI (by omega) (by omega)]; omega), mp15 layg, Option.bind_some]
    · obtain ⟨a1, a2, a3⟩ := e4 i hi
      obtain ⟨b1, b2, b3, b4, b5⟩ := d.2.2 i hi
      rw [zI_sI_a (by omega), zI_sI_a (by omega)]
      exact ⟨a1, a2, a3.of (fun j _ => zI_sI_a (by omega)), b4, b5⟩
  · rintro k g hk ⟨e2, e3, e4⟩
    have layg := e2.lay lay
    have dg := d.o e2 (by decide) (by decide) (by decide) (by decide)
    obtain ⟨a1, a2, a3, a4, a5⟩ := dg.2.2 k hk
    rw [e_X12_nowLater_10, mi15 layg, Option.bind_some, dg.1, if_pos ((nI_ltI (by omega) (by omega)).mpr hk), mF12 layg, Option.bind_some, mF16 layg, Option.bind_some, mr16 layg (by omega), Option.bind_some, a1, mw12 layg (by omega), Option.bind_some, mF13 layg.sI, Option.bind_some, mF17 layg.sI, Option.bind_some, mr17 layg.sI (by omega), Option.bind_some, zI_sI_a (by omega), a2, mw13 layg.sI (by omega), Option.bind_some]
    generalize hg : zsI (zsI g (m + 12) k (nI (pAt l k).1)) (m + 13) k (nI (pAt l k).2.length) = g2
    have o2 : zOf m [12, 13, 14] [11] g g2 := by rw [← hg]; exact (zOf_sI (by decide) (by decide)).tr (zOf_sI (by decide) (by decide))
    have lay2 := o2.lay layg
    have d2 := dg.o o2 (by decide) (by decide) (by decide) (by decide)
    obtain ⟨b1, b2, b3, b4, b5⟩ := d2.2.2 k hk
    have cp := zwr (g := fun i z => zm_X12_nowLater 44 [some (.inr m), some (.inl (nI k)), some (.inl (nI i))] [] z) (h := g2) (a := m + 14) (p := 32 * k) (n := (pAt l k).2.length) (f := fun j => (pAt l k).2.getD j 0) (fun i hi => by
      have layz : MLay (zWr g2 (m + 14) (32 * k) i fun j => (pAt l k).2.getD j 0) m := (zOf_Wr (L := [14]) (J := []) (by decide) (by decide)).lay lay2
      rw [e_X12_nowLater_44, mF17 layz, Option.bind_some, mr17 layz (by omega), Option.bind_some, zI_Wr_a (by omega), b2, if_pos ((nI_ltI (by omega) (by omega)).mpr hi), mF14 layz, Option.bind_some, mF18 layz, Option.bind_some, n32, pk_mul, nI_add, mr18 layz (by omega), Option.bind_some, zI_Wr_a (by omega), b3 i hi, mw14 layz (by omega), Option.bind_some, nI_1])
    have oz : zOf m [12, 13, 14] [11] g2 (zWr g2 (m + 14) (32 * k) (pAt l k).2.length fun j => (pAt l k).2.getD j 0) := zOf_Wr (by decide) (by decide)
    have layz := oz.lay lay2
    refine ⟨zWr g2 (m + 14) (32 * k) (pAt l k).2.length fun j => (pAt l k).2.getD j 0, ?_, (e2.tr o2).tr oz, ?_, fun i hi => ?_⟩
    · rw [n0]
      refine Eq.trans cp ?_
      rw [e_X12_nowLater_44, mF17 layz, Option.bind_some, mr17 layz (by omega), Option.bind_some, zI_Wr_a (by omega), b2, if_neg (by rw [nI_ltI (by omega) (by omega)]; omega), nI_1]
      rfl
    · rw [zI_Wr_a (by omega), ← hg, zI_sI_a (by omega), zI_sI_a (by omega)]; exact e3
    · rw [zI_Wr_a (by omega), zI_Wr_a (by omega), ← hg]
      by_cases c : i = k
      · subst c
        rw [zI_sI_a (by omega), zI_sI, zI_sI, hg]
        exact ⟨rfl, rfl, fun j hj => zI_Wr_at hj⟩
      · obtain ⟨q1, q2, q3⟩ := e4 i (by omega)
        have q4 := (d.2.2 i (by omega)).2.2.2.1
        rw [zI_sI_a (by omega), zI_sI_k c, zI_sI_k c, zI_sI_a (by omega), hg]
        exact ⟨q1, q2, q3.of (fun j hj => by rw [zI_Wr_out (by omega), ← hg, zI_sI_a (by omega), zI_sI_a (by omega)])⟩
theorem s_mjoined {h : zM} {m k w : Nat} {l : List (Nat × zWo)} (lay : MLay h m) (d : PRs h m l) (hk : k < l.length) (hw : wOk w) (h29 : (pAt l k).2.length ≤ 29) :
    ∃ h', zf nX12_joined [.inr m, .inl (nI k), .inl (nI w)] h = some (nI ((pAt l k).2 ++ dgs w).length, 0, h') ∧ zOf m [20] [] h h' ∧ Rw h' (m + 20) 0 ((pAt l k).2 ++ dgs w) := by
  have hl := d.2.1
  have w3 := hw.len
  have w9 := hw.lt
  obtain ⟨a1, a2, a3, a4, a5⟩ := d.2.2 k hk
  rw [e_X12_joined, mF13 lay, Option.bind_some, mr13 lay (by omega), Option.bind_some, a2]
  have cp := zwr (g := fun i z => zm_X12_joined 10 [some (.inr m), some (.inl (nI k)), some (.inl (nI w)), some (.inl (nI (pAt l k).2.length)), some (.inl (nI i)), none] [] z) (h := h) (a := m + 20) (p := 0) (n := (pAt l k).2.length) (f := fun j => (pAt l k).2.getD j 0) (fun i hi => by
    have layz : MLay (zWr h (m + 20) 0 i fun j => (pAt l k).2.getD j 0) m := (zOf_Wr (L := [20]) (J := []) (by decide) (by decide)).lay lay
    rw [e_X12_joined_10, if_pos ((nI_ltI (by omega) (by omega)).mpr hi), mF22 layz, Option.bind_some, mF14 layz, Option.bind_some, n32, pk_mul, nI_add, mr14 layz (by omega), Option.bind_some, zI_Wr_a (by omega), a3 i hi, mw22 layz (by omega), Option.bind_some, nI_1, Nat.zero_add])
  generalize hg : (zWr h (m + 20) 0 (pAt l k).2.length fun j => (pAt l k).2.getD j 0) = g at cp
  have og : zOf m [20] [] h g := by rw [← hg]; exact zOf_Wr (by decide) (by decide)
  have layg := og.lay lay
  have cp2 := zwr (g := fun i z => zm_X12_joined 52 [some (.inr m), some (.inl (nI k)), some (.inl (nI w)), some (.inl (nI (pAt l k).2.length)), some (.inl (nI (dgs w).length)), some (.inl (nI i))] [] z) (h := g) (a := m + 20) (p := (pAt l k).2.length) (n := (dgs w).length) (f := fun j => (dgs w).getD j 0) (fun i hi => by
    have layz : MLay (zWr g (m + 20) (pAt l k).2.length i fun j => (dgs w).getD j 0) m := (zOf_Wr (L := [20]) (J := []) (by decide) (by decide)).lay layg
    have el : dl (dgs w).length w = dgs w := by unfold dgs; rw [dl_len]
    rw [e_X12_joined_52, if_pos ((nI_ltI (by omega) (by omega)).mpr hi), mF22 layz, Option.bind_some, s_mletter (by omega) hi (by omega), Option.bind_some, el]
    dsimp only
    rw [nI_add, mw22 layz (by omega), Option.bind_some, nI_1])
  refine ⟨zWr g (m + 20) (pAt l k).2.length (dgs w).length fun j => (dgs w).getD j 0, ?_, og.tr (zOf_Wr (by decide) (by decide)), ?_⟩
  · rw [n0]
    refine Eq.trans cp ?_
    rw [e_X12_joined_10, if_neg (by rw [nI_ltI (by omega) (by omega)]; omega), n9, s_letters 9 (by decide), Option.bind_some, hw.ltr]
    dsimp only
    rw [n0]
    refine Eq.trans cp2 ?_
    rw [e_X12_joined_52, if_neg (by rw [nI_ltI (by omega) (by omega)]; omega), nI_add, List.length_append]
    rfl
  · refine Rw.app (fun j hj => ?_) (fun j hj => ?_)
    · rw [zI_Wr_out (by omega), ← hg, zI_Wr_at hj]
    · rw [Nat.zero_add, zI_Wr_at hj]
